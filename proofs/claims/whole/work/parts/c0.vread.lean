/-! valley: the class reads. -/
def zvT (N l0 : Nat) (r13 : Int32) (h14 : PH) : Option (Int32 × PH) :=
  ck (hK h14 l0 = 9) <|
  rq (hR h14 l0 10) fun a18 =>
  rq (hR h14 l0 11) fun a19 =>
  bd (sR h14 l0 10 (some a19)) fun h20 =>
  ck (hK h20 l0 = 9) <|
  bd (sR h20 l0 11 (some a18)) fun h22 =>
  ck (hK h22 l0 = 9) <|
  rq (hR h22 l0 1) fun a24 =>
  rq (hR h22 l0 10) fun a25 =>
  ck (hK h22 a24 = 2) <|
  cl (f_X2_begin N a24 a25 h22) fun r26 h27 =>
  ck (hK h27 l0 = 9) <|
  bd (sI h27 l0 14 (0 : Int32)) fun h30 =>
  ck (hK h30 l0 = 9) <|
  bd (sI h30 l0 12 (0 : Int32)) fun h32 =>
  some (r13, h32)
section VRD
variable {N x y o J v w pn pc tn : Nat} {h : PH} {A : AV} {M : AM} {P : Nat → AS} {lb : Nat → Bool} {K : Nat → AM} {tb : Nat → Nat}
theorem it_tb (p0 : I0 h x y o) (ob : OB h x v w) (p : IT h x y tn tb) : TB (tn, tb) x h := ⟨ob.tp, by have := ob.2.1; omega, p0.2.2.2.2.2.1, ⟨p.1, fun k hk => (p.2.2.2 k hk).1⟩, p.2.1, fun k hk => (p.2.2.2 k hk).2.1⟩
theorem z_vread (hN : 2001 ≤ N) (q : INVq N x y o J h v w A M pn pc P lb K tn tb) : ∃ h2, f_X10_valley N x h = (if nI (rdL (tn, tb) 1000 ((0, 0), D0)).1.1 = 0 then zvT N x (nI (rdL (tn, tb) 1000 ((0, 0), D0)).1.1) h2 else some (nI (rdL (tn, tb) 1000 ((0, 0), D0)).1.1, h2)) ∧ Kx x (fun z => z < hz h ∧ z ≠ x + 1 ∧ (z < w ∨ w + 18 ≤ z)) h h2 ∧ hI h2 (x + 1) 1 = 0 ∧ (rdL (tn, tb) 1000 ((0, 0), D0)).1.1 ≤ 16100 ∧ (hI h2 (w + 11) 0 = 1 ∧ hI h2 (w + 14) 0 = 0) ∧ ((rdL (tn, tb) 1000 ((0, 0), D0)).1.1 = 0 → DC h2 w (rdL (tn, tb) 1000 ((0, 0), D0)).2 ∧ GD (rdL (tn, tb) 1000 ((0, 0), D0)).2 (rdL (tn, tb) 1000 ((0, 0), D0)).1) := by
  obtain ⟨p0, ob, pv, pm, pnm, pM, pP, pK, pT⟩ := id q
  have y0 := p0.1
  have vw := ob.1
  have hz0 := ob.2.1
  have tbx := it_tb p0 ob pT
  obtain ⟨hr, a1, a2, a3⟩ := z_new (N := N) (w := w) (h := h) (x := x) (by omega) (by omega)
  have obr := ob.shp a3.1
  have fl : hI hr (w + 11) 0 = 1 ∧ hI hr (w + 14) 0 = 0 := by
    rw [(a3.2 (w + 11) (by omega)).1, (a3.2 (w + 14) (by omega)).1]
    obtain ⟨-, -, -, -, -, -, ⟨f1, f2, f3, f4⟩, -⟩ := p0
    rcases vw with ⟨_, rfl⟩ | ⟨_, rfl⟩
    · exact ⟨f3, f4⟩
    · exact ⟨f1, f2⟩
  have wlt : w + 18 ≤ hz h := by omega
  have wx : x + 43 ≤ w := by omega
  have Vr := obr.wl
  have tbr : TB (tn, tb) x hr := ⟨obr.tp, by have := a3.1.2.1; omega, by rw [a3.1.1]; exact tbx.2.2.1, tbx.2.2.2.1, by rw [(a3.2 (x + 1) (by omega)).1]; exact tbx.2.2.2.2.1, fun k hk => by rw [(a3.2 (x + 2) (by omega)).1]; exact tbx.2.2.2.2.2 k hk⟩
  obtain ⟨h1, b1, b2, b3, b4⟩ := z_readAll hN wx (Nat.le_trans wlt a3.1.2.1) Vr fl.1 fl.2 a2 tbr
  have ob1 := obr.shp b2.1
  have fg := b2.2.2 wx
  have t8 := b3.2.2.2.1
  have f1 : hI (sI h1 (x + 1) 1 0) (x + 1) = va_up (hI h1 (x + 1)) 1 0 := hI_sI_eq
  have wz1 : w + 18 ≤ hz h1 := Nat.le_trans wlt (Nat.le_trans a3.1.2.1 b2.1.2.1)
  have k5 : hK h1 (x + 1) = 5 := b3.1.1.1
  have tk : Kx x (fun z => z ≠ x + 1) h1 (sI h1 (x + 1) 1 0) := tkx
  have ra : hz h < hz hr := a2.2.2.2.1
  have rd7 : hK hr (hz h) = 7 := a2.1
  refine ⟨sI h1 (x + 1) 1 0, ?_, ⟨(a3.1.trans b2.1).trans tk.1, fun z hz' => ?_⟩, by rw [f1, va_eq], b3.2.2.1, ⟨?_, ?_⟩, fun c => ⟨(b4 c).1.kx tk (fun z z1 z2 => by omega) wz1 wx, (b4 c).2⟩⟩
  · unfold f_X10_valley f_X5_close
    rw [bd_e, bd_e, ck_p (show hK (nwh h 7 0) x = 9 from (va_ne (by omega)).trans ob.k9), show hR (nwh h 7 0) x 0 = some (x + 1) from (congrFun (show va_up (hR h) (hz h) (fun _ => none) x = hR h x from va_ne (by omega)) 0).trans ob.R0, rq_s, show hR (nwh h 7 0) x 11 = some w from (congrFun (show va_up (hR h) (hz h) (fun _ => none) x = hR h x from va_ne (by omega)) 11).trans ob.R9, rq_s, a1, cl_s, ck_p rd7, b1, cl_s, ck_p ob1.k9, ob1.R0, rq_s, ck_p k5, ck_p k5, bd_e, ck_p (show hK (sI h1 (x + 1) 1 0) (x + 1) = 5 from k5), f1, va_ne (by decide), t8, cl_s]
    rfl
  · have e1 := a3.2 z hz'.1
    have e2 := b2.2.1 z ⟨hz'.2.1, hz'.2.2⟩
    have e3 := tk.2 z hz'.2.1
    exact ⟨(e3.1.trans e2.1).trans e1.1, (e3.2.trans e2.2).trans e1.2⟩
  · rw [hI_sI_ne (by omega), fg _ (Or.inl rfl)]; exact fl.1
  · rw [hI_sI_ne (by omega), fg _ (Or.inr rfl)]; exact fl.2
end VRD
