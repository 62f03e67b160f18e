/-! valley: a sound text. -/
section VSD
variable {N x y o J v w pn pc tn : Nat} {h : PH} {A : AV} {M : AM} {P : Nat → AS} {lb : Nat → Bool} {K : Nat → AM} {tb : Nat → Nat}
theorem MD.rz {h h' : PH} {a : Nat} (g : Rz x h h') (n : a ≠ x) (p : MD h a) : MD h' a := by
  unfold MD at p ⊢
  rw [g.1, g.2.1, g.2.2.2 a n]; exact p
theorem VA.rows {h h' : PH} {a : Nat} (e : ∀ k, k < 18 → hI h' (a + k) = hI h (a + k)) (vl : VL h' a) (p : VA h a A) : VA h' a A := by
  have e0 := e 0 (by decide)
  rw [Nat.add_zero] at e0
  refine ⟨vl, ?_, p.2.2.1, ?_, ?_⟩
  · have := p.2.1
    unfold CV at this ⊢
    rw [e0, e 1 (by decide), e 3 (by decide), e 4 (by decide), e 5 (by decide), e 6 (by decide), e 7 (by decide), e 8 (by decide), e 9 (by decide), e 10 (by decide)]
    exact this
  · have := p.2.2.2.1
    unfold CL at this ⊢
    rw [e 11 (by decide), e 12 (by decide), e 14 (by decide), e 15 (by decide)]
    exact this
  · have := p.2.2.2.2
    unfold GM at this ⊢
    rw [e 17 (by decide)]
    exact this
/-- the reference reads, wherever the text is -/
theorem m_vread2 (hB : 2001 ≤ N) {h2 : PH} (pm2 : MA N h2 y A) (t1 : tn ≤ 1000) (t2 : ∀ k, k < tn → (tb k = 10 ∨ (32 ≤ tb k ∧ tb k ≤ 126))) (t3 : hI h2 y 1 = nI tn) (t4 : ∀ k, k < tn → hI h2 (y + 1) k = nI (tb k)) : ∃ h', f_X11_readsAll N y (sI h2 y 0 0) = some (yb (decide ((rdL (tn, tb) 1000 ((0, 0), D0)).1.1 = 0)), h') ∧ ((rdL (tn, tb) 1000 ((0, 0), D0)).1.1 = 0 → DM h' y (rdL (tn, tb) 1000 ((0, 0), D0)).2) ∧ Sm h2 h' ∧ hz h' = hz h2 ∧ (∀ z, (z < y ∨ z = y + 1 ∨ y + 17 ≤ z) → hI h' z = hI h2 z ∧ hJ h' z = hJ h2 z) ∧ hI h' y 1 = 0 := by
  have gx : Ex (fun z => z = y) h2 (sI h2 y 0 0) := Ex.sI rfl
  have pm3 : MA N (sI h2 y 0 0) y A := pm2.ex gx (fun z z1 z2 => by omega)
  obtain ⟨ha, h', a1, a2, a3, a4, a5⟩ := m_readsAll (X := (tn, tb)) hB pm3.1 ⟨t1, t2⟩ (by rw [hI_sI_eq, va_ne (by decide)]; exact t3) (fun k hk => by rw [hI_sI_ne (by omega)]; exact t4 k hk)
  refine ⟨h', a1, fun c => (a5 c).1, ((Sm.sI.trans a2.1).trans Sm.sI).trans a3.1, a3.2.1.trans a2.2.1, fun z hz' => ?_, ?_⟩
  · have e2 := a2.2.2.1 z hz'
    have e3 := a3.2.2.1 z hz'
    exact ⟨by rw [e3.1, hI_sI_ne (by omega), e2.1, hI_sI_ne (by omega)], e3.2.trans e2.2⟩
  · rw [a3.2.2.2.2 1 (Or.inl rfl), hI_sI_eq, va_eq]
def mkM (A : AV) : AM := (sFresh A, (0, fun _ => 0), (0, fun _ => 0, fun _ => 0, fun _ => 0))
theorem mkM_W (W : WV A) : WM A J (mkM A) := ⟨(WS.fresh W).up (Nat.zero_le _), ⟨Nat.zero_le _, fun k hk => absurd hk (Nat.not_lt_zero k)⟩, ⟨Nat.zero_le _, fun k hk => absurd hk (Nat.not_lt_zero k)⟩⟩
theorem v_sound (hB : 2001 ≤ N) (q : INVq N x y o J h v w A M pn pc P lb K tn tb) (c : (rdL (tn, tb) 1000 ((0, 0), D0)).1.1 = 0) : wp (f_X10_valley N x h) (fun r h1 => hK h1 y = 10 ∧ wp (f_X11_valley N y h1) (fun r2 h2 => r = r2 ∧ INV N x y o (J + 1) h2)) := by
  obtain ⟨p0, ob, pv, pm, pnm, pM, pP, pK, pT⟩ := id q
  have y0 := p0.1
  have z0 := p0.2.2.1
  have z1 := p0.2.1
  have vw := ob.1
  obtain ⟨h2, a1, a2, a3, a4, a5, a6⟩ := z_vread hB q
  obtain ⟨dc, gd⟩ := a6 c
  have fz : nI (rdL (tn, tb) 1000 ((0, 0), D0)).1.1 = 0 := by rw [c]; rfl
  rw [if_pos fz, fz] at a1
  have W := mk_WV gd
  have va2 := mk_VA gd dc
  have ob2 : OB h2 x v w := ob.shp a2.1
  obtain ⟨hc, b1, ob3, ⟨g, gg, b2⟩, b3, b4, b5, b6⟩ := z_zvT (r := 0) hB ob2 va2.2.1
  have eg : hI g = hI h2 := by rw [gg]; rfl
  have eJ : hJ hc = hJ h2 := b2.2.2.1.trans (by rw [gg]; rfl)
  have ec : ∀ z, z ≠ x → z ≠ x + 3 → ¬ (x + 4 ≤ z ∧ z < x + 10) → hI hc z = hI h2 z := fun z n1 n2 n3 => (b2.2.2.2 z (by unfold inS; omega)).trans (by rw [eg])
  have rz : Rz x h2 g := by
    rw [gg]
    exact ⟨rfl, rfl, rfl, fun z hz => by
      show up2 (up2 (hR h2) x 10 (some w)) x 11 (some v) z = _
      rw [up2_a _ _ _ hz, up2_a _ _ _ hz]⟩
  have pm2 : MA N h2 y A := pm.kx a2 (fun z z1 z2 => by omega) (by omega) (by omega)
  have pmg : MA N g y A := ⟨pm2.1.rz rz (by omega), by rw [gg]; exact pm2.2⟩
  have pmc : MA N hc y A := pmg.ex b2 (fun z z1 z2 z3 => by unfold inS at z3; omega)
  have hy := a2.2 y ⟨by omega, by omega, by omega⟩
  have hy1 := a2.2 (y + 1) ⟨by omega, by omega, by omega⟩
  have ey : hI hc y = hI h y := (ec y (by omega) (by omega) (by omega)).trans hy.1
  have ey1 : hI hc (y + 1) = hI h (y + 1) := (ec (y + 1) (by omega) (by omega) (by omega)).trans hy1.1
  obtain ⟨h', d1, d2, d3, d4, d5, d6⟩ := m_vread2 hB pmc pT.1 (fun k hk => (pT.2.2.2 k hk).1) (by rw [ey]; exact pT.2.2.1) (fun k hk => by rw [ey1]; exact (pT.2.2.2 k hk).2.2)
  obtain ⟨hL, e1, e2, e3⟩ := mk_lay (N := N) (show 2000 ≤ N by omega) gd (d2 c)
  obtain ⟨hf, f1, f2, f3, f4, f5, f6, f7⟩ := m_vtail hB W e3
  have ky : hK hc y = 10 := pmc.1.1
  have sm : Sm hc hf := (d3.trans e2.1).trans f2.1
  have ez : hz hf = hz hc := f2.2.1.trans (e2.2.1.trans d4)
  have lo : ∀ z, z < y → hI hf z = hI hc z ∧ hJ hf z = hJ hc z := fun z hz => by
    have k1 := d5 z (Or.inl hz)
    have g1 : hI hf z = hI hL z := f2.2.2.2 z (by omega)
    have g2 : hI hL z = hI h' z := e2.2.2.1 z (by omega)
    have g3 : hJ hL z = hJ h' z := e2.2.2.2.1 z (by omega)
    exact ⟨g1.trans (g2.trans k1.1), (congrFun f2.2.2.1 z).trans (g3.trans k1.2)⟩
  have ob4 : OB hf x w v := ob3.shp (x := x) (sm.shp ez)
  have ob5 : OB h' x w v := ob3.shp (x := x) (d3.shp d4)
  have lw : ∀ k, k < 18 → hI hf (w + k) = hI h2 (w + k) := fun k hk => (lo _ (by omega)).1.trans (ec _ (by omega) (by omega) (by omega))
  have lv : ∀ k, k < 18 → hI hf (v + k) = hI h (v + k) := fun k hk => ((lo _ (by omega)).1.trans (ec _ (by omega) (by omega) (by omega))).trans (a2.2 _ ⟨by omega, by omega, by omega⟩).1
  have lx : hI hf x = va_up (va_up (hI h x) 14 0) 12 0 := ((lo x (by omega)).1.trans b6).trans (by rw [(a2.2 x ⟨by omega, by omega, by omega⟩).1])
  have eK : ∀ z, z < hz h → hK hf z = hK h z ∧ hN hf z = hN h z := fun z hz => by
    have k1 := a2.1.2.2.1 z hz
    rw [sm.1, sm.2.1, b2.1.1, b2.1.2.1, rz.1, rz.2.1]
    exact k1
  have ezh : hz h ≤ hz hf := by rw [ez, b2.2.1, rz.2.2.1]; exact a2.1.2.1
  have eW : hW hf = hW h := by rw [sm.2.2.2, b2.1.2.2.2, gg]; exact a2.1.1
  have nm : NM hL w y (mkA (rdL (tn, tb) 1000 ((0, 0), D0)).2) := by
    refine mk_NM (h := h') ⟨ob5.vl, fun k hk => ?_⟩ (d2 c).1 e2 (e2.2.2.2.1 _ (by omega))
    have k1 := d5 (w + 1) (Or.inl (by omega))
    have k2 := d5 (w + 2) (Or.inl (by omega))
    obtain ⟨c1, c2, c3⟩ := dc.1.2 k hk
    exact ⟨c1, by rw [k1.1, ec _ (by omega) (by omega) (by omega)]; exact c2, fun i hi => ⟨(c3 i hi).1, by rw [k2.2, eJ]; exact (c3 i hi).2⟩⟩
  refine wp2 (a1.trans b1) ky ?_ ⟨w, v, mkA (rdL (tn, tb) 1000 ((0, 0), D0)).2, mkM (mkA (rdL (tn, tb) 1000 ((0, 0), D0)).2), pn, 0, P, fun _ => false, K, 0, tb, ⟨?_, ob4, va2.rows lw ob4.vl, e3.ex f2 (fun z z1 z2 => by omega), ?_, ⟨⟨?_, ?_, ?_⟩, f3, ?_, ?_, mkM_W W⟩, ⟨⟨pP.1.1, by decide, ?_, ?_, ?_⟩, fun i hi => absurd hi (Nat.not_lt_zero i)⟩, ⟨?_, fun i hi => ⟨?_, fun l => absurd l Bool.false_ne_true⟩⟩, ⟨Nat.zero_le _, ?_, ?_, fun k hk => absurd hk (Nat.not_lt_zero k)⟩⟩⟩
  · unfold f_X11_valley
    rw [ck_p ky, bd_e, ck_p (show hK (sI hc y 0 0) y = 10 from ky), d1, cl_s, decide_eq_true c, if_neg (show ¬ yb true = 0 by decide), ck_p (show hK h' y = 10 by rw [d3.1]; exact ky), e1, cl_s, ck_p e3.1.1]
    exact f1
  · obtain ⟨s1, s2, s3, s4, s5, s6, ⟨g1, g2, g3, g4⟩, g5⟩ := p0
    have fw : hI hf (w + 11) 0 = 1 ∧ hI hf (w + 14) 0 = 0 := by
      rw [lw 11 (by decide), lw 14 (by decide)]; exact a5
    have fv : hI hf (v + 11) 0 = hI h (v + 11) 0 ∧ hI hf (v + 14) 0 = hI h (v + 14) 0 := by
      rw [lv 11 (by decide), lv 14 (by decide)]; exact ⟨rfl, rfl⟩
    refine ⟨s1, s2, Nat.lt_of_lt_of_le s3 ezh, (eK o s3).1.trans s4, (eK o s3).2.trans s5, by rw [eW]; exact s6, ?_, g5.eq (fun z hz' => ((lo z (by omega)).1.trans (ec z (by omega) (by omega) (by omega))).trans (a2.2 z ⟨by omega, by omega, by omega⟩).1)⟩
    rcases vw with ⟨rfl, rfl⟩ | ⟨rfl, rfl⟩
    · exact ⟨fv.1.trans g1, fv.2.trans g2, fw.1, fw.2⟩
    · exact ⟨fw.1, fw.2, fv.1.trans g3, fv.2.trans g4⟩
  · unfold NM at nm ⊢
    rw [f2.2.2.1]; exact nm
  · unfold CS at b3 ⊢
    rw [(lo (x + 3 + 1) (by omega)).1, (lo (x + 3 + 1 + 1) (by omega)).1, (lo (x + 3 + 1 + 2) (by omega)).1, (lo (x + 3 + 1 + 3) (by omega)).1, (lo (x + 3 + 1 + 4) (by omega)).1]
    exact b3
  · exact ⟨by rw [(lo (x + 3 + 6) (by omega)).1]; exact b4, fun k hk => absurd hk (Nat.not_lt_zero k)⟩
  · exact ⟨by rw [(lo (x + 3) (by omega)).1]; exact b5, fun k hk => absurd hk (Nat.not_lt_zero k)⟩
  · exact ⟨f4, fun k hk => absurd hk (Nat.not_lt_zero k)⟩
  · exact ⟨f5, fun k hk => absurd hk (Nat.not_lt_zero k)⟩
  · rw [lx, va_ne (by decide), va_ne (by decide)]; exact pP.1.2.2.1
  · rw [lx, va_ne (by decide), va_eq]; rfl
  · rw [f6, va_eq]; rfl
  · rw [lx, va_eq]; rfl
  · exact f7 i hi
  · rw [(lo (x + 1) (by omega)).1, ec (x + 1) (by omega) (by omega) (by omega), a3]; rfl
  · rw [f6, va_ne (by decide), e2.2.2.1 y (by omega), d6]; rfl
theorem d_valley (hB : 2001 ≤ N) : D_valley (INV N x y o J) (INV N x y o (J + 1)) N x y := by
  intro h ⟨v, w, A, M, pn, pc, P, lb, K, tn, tb, q⟩
  by_cases c : (rdL (tn, tb) 1000 ((0, 0), D0)).1.1 = 0
  · exact v_sound hB q c
  · exact v_fault hB q c
end VSD
