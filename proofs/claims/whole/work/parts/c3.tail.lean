/-! valley: the class begins anew. -/
section ZVT
variable {N x v w : Nat} {h : PH} {A : AV} {r : Int32}
theorem z_zvT (hN : 2001 ≤ N) (ob : OB h x v w) (cv : CV h w A) : ∃ h', zvT N x r h = some (r, h') ∧ OB h' x w v ∧ (∃ g, g = sR (sR h x 10 (some w)) x 11 (some v) ∧ Ex (fun z => z = x ∨ z = x + 3 ∨ inS (x + 3 + 1) z ∨ z = x + 9) g h') ∧ CS h' (x + 3 + 1) (sFresh A) ∧ hI h' (x + 9) 1 = 0 ∧ hI h' (x + 3) 5 = 0 ∧ hI h' x = va_up (va_up (hI h x) 14 0) 12 0 := by
  have vw := ob.1
  have ob4 := ob.swap
  have k3 : hK (sR h x 10 (some w)) x = 9 := ob.k9
  have e8 : hR h x 10 = some v := ob.R8
  obtain ⟨g, gd⟩ : ∃ g, g = sR (sR h x 10 (some w)) x 11 (some v) := ⟨_, rfl⟩
  rw [← gd] at ob4
  have cv4 : CV g w A := by rw [gd]; exact cv
  obtain ⟨h5, a1, a2, a3⟩ := c_begin hN (show Dj (x + 3 + 1) w by unfold Dj; omega) ob4.st ob4.vl cv4
  have ob5 := ob4.shp (x := x) a2.shp
  have m5 := ob5.mt
  have R1 : hR h5 (x + 3) 1 = some (x + 9) := m5.2.1.2.1
  have k9 : hK h5 (x + 9) = 0 := by unfold MT DY at m5; exact m5.2.2.2.1.1
  have ix : hI h5 x = hI h x := by rw [a2.2.2.2 x (by unfold inS; omega), gd]; rfl
  have ob6 : OB (sI (sI (sI (sI h5 (x + 9) 1 0) (x + 3) 5 0) x 14 0) x 12 0) x w v := ob5.shp (x := x) (((Sm.sI.trans Sm.sI).trans Sm.sI).trans Sm.sI |>.shp rfl)
  refine ⟨_, ?_, ob6, ⟨g, gd, ?_⟩, ?_, ?_, ?_, ?_⟩
  · unfold zvT f_X2_begin f_X0_clear
    rw [ck_p ob.k9, ob.R8, rq_s, ob.R9, rq_s, bd_e, ck_p k3, bd_e, ← gd, ck_p ob4.k9, ob4.R1, rq_s, ob4.R8, rq_s, ck_p ob4.mt.1, ck_p ob4.mt.1, ob4.mt.2.1.1, rq_s, ck_p ob4.st.1, a1, cl_s, ck_p m5.1, R1, rq_s, ck_p k9, ck_p k9, bd_e, cl_s, ck_p (show hK (sI h5 (x + 9) 1 0) (x + 3) = 2 from m5.1), bd_e, cl_s, ck_p (show hK (sI (sI h5 (x + 9) 1 0) (x + 3) 5 0) x = 9 from ob5.k9), bd_e, ck_p (show hK (sI (sI (sI h5 (x + 9) 1 0) (x + 3) 5 0) x 14 0) x = 9 from ob5.k9), bd_e]
  · exact ((((a2.mono (Q := fun z => z = x ∨ z = x + 3 ∨ inS (x + 3 + 1) z ∨ z = x + 9) (fun z hz => Or.inr (Or.inr (Or.inl hz)))).trans (Ex.sI (Or.inr (Or.inr (Or.inr rfl))))).trans (Ex.sI (Or.inr (Or.inl rfl)))).trans (Ex.sI (Or.inl rfl))).trans (Ex.sI (Or.inl rfl))
  · have e : ∀ z, x + 4 ≤ z → z ≤ x + 8 → hI (sI (sI (sI (sI h5 (x + 9) 1 0) (x + 3) 5 0) x 14 0) x 12 0) z = hI h5 z := fun z z1 z2 => by rw [hI_sI_ne (by omega), hI_sI_ne (by omega), hI_sI_ne (by omega), hI_sI_ne (by omega)]
    unfold CS at a3 ⊢
    rw [e _ (by omega) (by omega), e (x + 3 + 1 + 1) (by omega) (by omega), e (x + 3 + 1 + 2) (by omega) (by omega), e (x + 3 + 1 + 3) (by omega) (by omega), e (x + 3 + 1 + 4) (by omega) (by omega)]
    exact a3
  · rw [hI_sI_ne (by omega), hI_sI_ne (by omega), hI_sI_ne (by omega), hI_sI_eq, va_eq]
  · rw [hI_sI_ne (by omega), hI_sI_ne (by omega), hI_sI_eq, va_eq]
  · rw [hI_sI_eq, hI_sI_eq, hI_sI_ne (by omega), hI_sI_ne (by omega), ix]
end ZVT
