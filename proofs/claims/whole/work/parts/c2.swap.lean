/-! valley: the two valleys change places. -/
def Rz (x : Nat) (h h' : PH) : Prop := hK h' = hK h ∧ hN h' = hN h ∧ hz h' = hz h ∧ ∀ z, z ≠ x → hR h' z = hR h z
section SWP
variable {x v w a : Nat} {h h' : PH}
theorem ST.rz (g : Rz x h h') (n : a ≠ x) (p : ST h a) : ST h' a := by
  unfold ST IA at p ⊢
  rw [g.1, g.2.1, g.2.2.2 a n]; exact p
theorem TP.rz (g : Rz x h h') (n : a ≠ x) (p : TP h a) : TP h' a := by
  unfold TP at p ⊢
  rw [g.1, g.2.1, g.2.2.2 a n]; exact p
theorem DY.rz (g : Rz x h h') (n : a ≠ x) (p : DY h a) : DY h' a := by
  unfold DY IA at p ⊢
  rw [g.1, g.2.1, g.2.2.2 a n]; exact p
theorem MT.rz (g : Rz x h h') (n : x < a) (p : MT h a) : MT h' a := by
  unfold MT DY ST IA at p ⊢
  rw [g.1, g.2.1, g.2.2.2 a (by omega), g.2.2.2 (a + 1) (by omega), g.2.2.2 (a + 6) (by omega)]; exact p
theorem WK.rz (g : Rz x h h') (n : a ≠ x) (p : WK h a) : WK h' a := by
  unfold WK IA at p ⊢
  rw [g.1, g.2.1, g.2.2.2 a n]; exact p
theorem SP.rz (g : Rz x h h') (n : a ≠ x) (p : SP h a) : SP h' a := by
  unfold SP IA at p ⊢
  rw [g.1, g.2.1, g.2.2.2 a n]; exact p
theorem VL.rz (g : Rz x h h') (n : x < a) (p : VL h a) : VL h' a := by
  unfold VL IA at p ⊢
  rw [g.1, g.2.1, g.2.2.2 a (by omega), g.2.2.2 (a + 11) (by omega), g.2.2.2 (a + 14) (by omega)]; exact p
theorem OB.swap (p : OB h x v w) : OB (sR (sR h x 10 (some w)) x 11 (some v)) x w v := by
  have g : Rz x h (sR (sR h x 10 (some w)) x 11 (some v)) := ⟨rfl, rfl, rfl, fun z hz => by
    show up2 (up2 (hR h) x 10 (some w)) x 11 (some v) z = _
    rw [up2_a _ _ _ hz, up2_a _ _ _ hz]⟩
  have r : ∀ k, k < 10 → hR (sR (sR h x 10 (some w)) x 11 (some v)) x k = hR h x k := fun k hk => by
    show up2 (up2 (hR h) x 10 (some w)) x 11 (some v) x k = _
    rw [up2_k _ _ _ (by omega), up2_k _ _ _ (by omega)]
  have r8 : hR (sR (sR h x 10 (some w)) x 11 (some v)) x 10 = some w := by
    show up2 (up2 (hR h) x 10 (some w)) x 11 (some v) x 10 = _
    rw [up2_k _ _ _ (by decide), up2_self]
  have r9 : hR (sR (sR h x 10 (some w)) x 11 (some v)) x 11 = some v := up2_self _ _ _ _
  generalize sR (sR h x 10 (some w)) x 11 (some v) = h4 at *
  obtain ⟨d, l, p1, ⟨s0, s1, s2, s3, s4, s5, s6, s7, s8, s9⟩, pt, pm, ⟨⟨a1, a2⟩, a3⟩, ⟨⟨b1, b2⟩, b3⟩, pd, py, pw, pp, pv, pv2, pf⟩ := p
  refine ⟨by omega, by rw [g.2.2.1]; exact l, by rw [g.1]; exact p1, ⟨(r 0 (by decide)).trans s0, (r 1 (by decide)).trans s1, (r 2 (by decide)).trans s2, (r 3 (by decide)).trans s3, (r 4 (by decide)).trans s4, (r 5 (by decide)).trans s5, (r 6 (by decide)).trans s6, (r 7 (by decide)).trans s7, r8, r9⟩, pt.rz g (by omega), pm.rz g (by omega), ⟨⟨by rw [g.1]; exact a1, by rw [g.2.1]; exact a2⟩, fun i hi => ⟨by rw [g.2.2.2 _ (by omega)]; exact (a3 i hi).1, (a3 i hi).2.rz g (by omega)⟩⟩, ⟨⟨by rw [g.1]; exact b1, by rw [g.2.1]; exact b2⟩, fun i hi => ⟨by rw [g.2.2.2 _ (by omega)]; exact (b3 i hi).1, (b3 i hi).2.rz g (by omega)⟩⟩, pd.rz g (by omega), py.rz g (by omega), pw.rz g (by omega), pp.rz g (by omega), pv2.rz g (by omega), pv.rz g (by omega), ⟨⟨(r 8 (by decide)).trans pf.1.1, (r 9 (by decide)).trans pf.1.2⟩, ⟨by rw [g.1]; exact pf.2.1.1, by rw [g.2.1]; exact pf.2.1.2⟩, ⟨by rw [g.1]; exact pf.2.2.1, by rw [g.2.1]; exact pf.2.2.2⟩⟩⟩
end SWP
