/-! Copies: of states, days and moments, on both sides. -/
theorem cpy_at {f g : Nat → Int32} {n k : Nat} (hk : k < n) (hn : n < 2 ^ 31) : va_cpy f g (ix (0 : Int32)) (ix (0 : Int32)) (ix (nI n)) k = f k := by
  unfold va_cpy
  rw [show ix (0 : Int32) = 0 from rfl, ix_nI hn, if_pos ⟨Nat.zero_le _, by omega⟩, Nat.zero_add, Nat.sub_zero]
theorem DY.sm {h h' : PH} {a : Nat} (s : Sm h h') (p : DY h a) : DY h' a := by unfold DY IA at p ⊢; rw [s.1, s.2.1, s.2.2.1]; exact p
theorem MT.sm {h h' : PH} {a : Nat} (s : Sm h h') (p : MT h a) : MT h' a := by unfold MT ST DY IA at p ⊢; rw [s.1, s.2.1, s.2.2.1]; exact p
section CPY
variable {N : Nat} {h : PH} {d s : Nat} {S : AS} {D : AD} {M : AM}
theorem c_copy (dj : d + 5 ≤ s ∨ s + 5 ≤ d) (hD : ST h d) (hS : ST h s) (hC : CS h s S) : ∃ h', f_X4_copy N d s h = some ((), h') ∧ Ex (inS d) h h' ∧ CS h' d S := by
  unfold f_X4_copy
  rw [ck_p hS.1, ck_p hD.1, bd_e]
  have x0 : Ex (inS d) h (sI h d 0 (hI h s 0)) := Ex.sI (by unfold inS; omega)
  have q0 : hI (sI h d 0 (hI h s 0)) d 0 = nI (tH S) := by rw [hI_sI_eq, va_eq]; exact hC.1
  have g0 : ∀ z, z ≠ d → hI (sI h d 0 (hI h s 0)) z = hI h z := fun z hz => hI_sI_ne hz
  generalize sI h d 0 (hI h s 0) = h0 at x0 q0 g0 ⊢
  have D0 := hD.sm x0.1
  have S0 := hS.sm x0.1
  rw [ck_p S0.1, sR_stock S0, rq_s, ck_p D0.1, sR_stock D0, rq_s, rq_s, ck_p (sK_stock D0), ck_p (sK_stock S0), ck_p (sK_stock D0), sN_stock D0, sN_stock S0, ck_p (by decide +kernel), ck_p (by decide +kernel), ck_p (by decide +kernel), bd_e]
  have y1 : Ex (inS d) h0 (sRow h0 (d + 1) (va_cpy (hI h0 (s + 1)) (hI h0 (d + 1)) (ix (0 : Int32)) (ix (0 : Int32)) (ix (nI 20)))) := Ex.sRow (by unfold inS; omega)
  have f1 : hI (sRow h0 (d + 1) (va_cpy (hI h0 (s + 1)) (hI h0 (d + 1)) (ix (0 : Int32)) (ix (0 : Int32)) (ix (nI 20)))) (d + 1) = va_cpy (hI h0 (s + 1)) (hI h0 (d + 1)) (ix (0 : Int32)) (ix (0 : Int32)) (ix (nI 20)) := hI_row
  have g1 : ∀ z, z ≠ d + 1 → hI (sRow h0 (d + 1) (va_cpy (hI h0 (s + 1)) (hI h0 (d + 1)) (ix (0 : Int32)) (ix (0 : Int32)) (ix (nI 20)))) z = hI h0 z := fun z hz => hI_row_ne hz
  generalize sRow h0 (d + 1) (va_cpy (hI h0 (s + 1)) (hI h0 (d + 1)) (ix (0 : Int32)) (ix (0 : Int32)) (ix (nI 20))) = h1 at y1 f1 g1 ⊢
  have x1 := x0.trans y1
  have D1 := hD.sm x1.1
  have S1 := hS.sm x1.1
  rw [ck_p S1.1, sR_fuel S1, rq_s, ck_p D1.1, sR_fuel D1, rq_s, rq_s, ck_p (sK_fuel D1), ck_p (sK_fuel S1), ck_p (sK_fuel D1), sN_fuel D1, sN_fuel S1, ck_p (by decide +kernel), ck_p (by decide +kernel), ck_p (by decide +kernel), bd_e]
  have y2 : Ex (inS d) h1 (sRow h1 (d + 2) (va_cpy (hI h1 (s + 2)) (hI h1 (d + 2)) (ix (0 : Int32)) (ix (0 : Int32)) (ix (nI 4)))) := Ex.sRow (by unfold inS; omega)
  have f2 : hI (sRow h1 (d + 2) (va_cpy (hI h1 (s + 2)) (hI h1 (d + 2)) (ix (0 : Int32)) (ix (0 : Int32)) (ix (nI 4)))) (d + 2) = va_cpy (hI h1 (s + 2)) (hI h1 (d + 2)) (ix (0 : Int32)) (ix (0 : Int32)) (ix (nI 4)) := hI_row
  have g2 : ∀ z, z ≠ d + 2 → hI (sRow h1 (d + 2) (va_cpy (hI h1 (s + 2)) (hI h1 (d + 2)) (ix (0 : Int32)) (ix (0 : Int32)) (ix (nI 4)))) z = hI h1 z := fun z hz => hI_row_ne hz
  generalize sRow h1 (d + 2) (va_cpy (hI h1 (s + 2)) (hI h1 (d + 2)) (ix (0 : Int32)) (ix (0 : Int32)) (ix (nI 4))) = h2 at y2 f2 g2 ⊢
  have x2 := x1.trans y2
  have D2 := hD.sm x2.1
  have S2 := hS.sm x2.1
  rw [ck_p S2.1, sR_left S2, rq_s, ck_p D2.1, sR_left D2, rq_s, rq_s, ck_p (sK_left D2), ck_p (sK_left S2), ck_p (sK_left D2), sN_left D2, sN_left S2, ck_p (by decide +kernel), ck_p (by decide +kernel), ck_p (by decide +kernel), bd_e]
  have y3 : Ex (inS d) h2 (sRow h2 (d + 3) (va_cpy (hI h2 (s + 3)) (hI h2 (d + 3)) (ix (0 : Int32)) (ix (0 : Int32)) (ix (nI 4)))) := Ex.sRow (by unfold inS; omega)
  have f3 : hI (sRow h2 (d + 3) (va_cpy (hI h2 (s + 3)) (hI h2 (d + 3)) (ix (0 : Int32)) (ix (0 : Int32)) (ix (nI 4)))) (d + 3) = va_cpy (hI h2 (s + 3)) (hI h2 (d + 3)) (ix (0 : Int32)) (ix (0 : Int32)) (ix (nI 4)) := hI_row
  have g3 : ∀ z, z ≠ d + 3 → hI (sRow h2 (d + 3) (va_cpy (hI h2 (s + 3)) (hI h2 (d + 3)) (ix (0 : Int32)) (ix (0 : Int32)) (ix (nI 4)))) z = hI h2 z := fun z hz => hI_row_ne hz
  generalize sRow h2 (d + 3) (va_cpy (hI h2 (s + 3)) (hI h2 (d + 3)) (ix (0 : Int32)) (ix (0 : Int32)) (ix (nI 4))) = h3 at y3 f3 g3 ⊢
  have x3 := x2.trans y3
  have D3 := hD.sm x3.1
  have S3 := hS.sm x3.1
  rw [ck_p S3.1, sR_soot S3, rq_s, ck_p D3.1, sR_soot D3, rq_s, rq_s, ck_p (sK_soot D3), ck_p (sK_soot S3), ck_p (sK_soot D3), sN_soot D3, sN_soot S3, ck_p (by decide +kernel), ck_p (by decide +kernel), ck_p (by decide +kernel), bd_e]
  have y4 : Ex (inS d) h3 (sRow h3 (d + 4) (va_cpy (hI h3 (s + 4)) (hI h3 (d + 4)) (ix (0 : Int32)) (ix (0 : Int32)) (ix (nI 3)))) := Ex.sRow (by unfold inS; omega)
  have f4 : hI (sRow h3 (d + 4) (va_cpy (hI h3 (s + 4)) (hI h3 (d + 4)) (ix (0 : Int32)) (ix (0 : Int32)) (ix (nI 3)))) (d + 4) = va_cpy (hI h3 (s + 4)) (hI h3 (d + 4)) (ix (0 : Int32)) (ix (0 : Int32)) (ix (nI 3)) := hI_row
  have g4 : ∀ z, z ≠ d + 4 → hI (sRow h3 (d + 4) (va_cpy (hI h3 (s + 4)) (hI h3 (d + 4)) (ix (0 : Int32)) (ix (0 : Int32)) (ix (nI 3)))) z = hI h3 z := fun z hz => hI_row_ne hz
  generalize sRow h3 (d + 4) (va_cpy (hI h3 (s + 4)) (hI h3 (d + 4)) (ix (0 : Int32)) (ix (0 : Int32)) (ix (nI 3))) = h4 at y4 f4 g4 ⊢
  have x4 := x3.trans y4
  have D4 := hD.sm x4.1
  have S4 := hS.sm x4.1
  refine ⟨h4, rfl, x4, ?_, fun k hk => ?_, fun k hk => ?_, fun k hk => ?_, fun k hk => ?_⟩
  · rw [g4 d (by omega), g3 d (by omega), g2 d (by omega), g1 d (by omega)]; exact q0
  · rw [g4 _ (by omega), g3 _ (by omega), g2 _ (by omega), f1, cpy_at hk (by decide), g0 _ (by omega)]; exact hC.2.1 k hk
  · rw [g4 _ (by omega), g3 _ (by omega), f2, cpy_at hk (by decide), g1 _ (by omega), g0 _ (by omega)]; exact hC.2.2.1 k hk
  · rw [g4 _ (by omega), f3, cpy_at hk (by decide), g2 _ (by omega), g1 _ (by omega), g0 _ (by omega)]; exact hC.2.2.2.1 k hk
  · rw [f4, cpy_at hk (by decide), g3 _ (by omega), g2 _ (by omega), g1 _ (by omega), g0 _ (by omega)]; exact hC.2.2.2.2 k hk
theorem c_dcopy (dj : d + 2 ≤ s ∨ s + 2 ≤ d) (hD : DY h d) (hS : DY h s) (hC : CD h s D) (hn : D.1 ≤ 40) : ∃ h', f_X0_copy N d s h = some ((), h') ∧ Ex (fun z => z = d ∨ z = d + 1) h h' ∧ CD h' d D := by
  unfold f_X0_copy
  rw [ck_p hS.1, ck_p hD.1, bd_e]
  have x0 : Ex (fun z => z = d ∨ z = d + 1) h (sI h d 1 (hI h s 1)) := Ex.sI (Or.inl rfl)
  have q0 : hI (sI h d 1 (hI h s 1)) d 1 = nI D.1 := by rw [hI_sI_eq, va_eq]; exact hC.1
  have g0 : ∀ z, z ≠ d → hI (sI h d 1 (hI h s 1)) z = hI h z := fun z hz => hI_sI_ne hz
  have D0 := hD.sm (Sm.sI (h := h) (a := d) (k := 1) (v := hI h s 1))
  have S0 := hS.sm (Sm.sI (h := h) (a := d) (k := 1) (v := hI h s 1))
  generalize sI h d 1 (hI h s 1) = h0 at x0 q0 g0 D0 S0 ⊢
  have e5 : nI D.1 * (5 : Int32) = nI (D.1 * 5) := pk_mul D.1 5
  have i0 : ix (0 : Int32) = 0 := rfl
  have i5 : ix (nI (D.1 * 5)) = D.1 * 5 := ix_nI (by omega)
  rw [ck_p S0.1, S0.2.1, rq_s, ck_p D0.1, D0.2.1, rq_s, ck_p S0.2.2.1, ck_p D0.2.2.1, q0, e5, S0.2.2.2, D0.2.2.2, ck_p (nI_pos (by omega)), ck_p (by rw [i0, i5]; omega), ck_p (by rw [i0, i5]; omega), bd_e]
  refine ⟨_, rfl, x0.trans (Ex.sRow (Or.inr rfl)), ?_, fun k hk => ?_⟩
  · rw [hI_row_ne (by omega)]; exact q0
  · rw [hI_row, cpy_at (by omega) (by omega), g0 _ (by omega)]; exact hC.2 k hk
theorem c_mcopy (dj : d + 11 ≤ s ∨ s + 11 ≤ d) (hD : MT h d) (hS : MT h s) (hC : CM h s M) (hn : M.2.1.1 ≤ 40) (hr : M.2.2.1 ≤ 8) : ∃ h', f_X2_copy N d s h = some ((), h') ∧ Ex (fun z => d ≤ z ∧ z < d + 11) h h' ∧ CM h' d M := by
  unfold f_X2_copy
  obtain ⟨h0, r0, y0, c0⟩ := c_copy (N := N) (d := d + 1) (s := s + 1) (by omega) hD.2.2.1 hS.2.2.1 hC.1
  have x0 : Ex (fun z => d ≤ z ∧ z < d + 11) h h0 := y0.mono (fun z hz => by unfold inS at hz; omega)
  have D0 := hD.sm x0.1
  have S0 := hS.sm x0.1
  rw [ck_p hD.1, hD.2.1.1, rq_s, ck_p hS.1, hS.2.1.1, rq_s, ck_p hD.2.2.1.1, r0, cl_s]
  have cd0 : CD h0 (s + 6) M.2.1 := ⟨by rw [y0.2.2.2 _ (by unfold inS; omega)]; exact hC.2.1.1, fun k hk => by rw [y0.2.2.2 _ (by unfold inS; omega)]; exact hC.2.1.2 k hk⟩
  obtain ⟨h1, r1, y1, c1⟩ := c_dcopy (N := N) (d := d + 6) (s := s + 6) (by omega) D0.2.2.2.1 S0.2.2.2.1 cd0 hn
  have x1 := x0.trans (y1.mono (Q := fun z => d ≤ z ∧ z < d + 11) (fun z hz => by omega))
  have D1 := hD.sm x1.1
  have S1 := hS.sm x1.1
  have n0 : ∀ z, (z = s ∨ (s + 8 ≤ z ∧ z ≤ s + 10)) → hI h1 z = hI h z := fun z hz => x1.2.2.2 z (by omega)
  rw [ck_p D0.1, D0.2.1.2.1, rq_s, ck_p S0.1, S0.2.1.2.1, rq_s, ck_p D0.2.2.2.1.1, r1, cl_s, ck_p S1.1, ck_p D1.1, bd_e]
  have cs1 : CS h1 (d + 1) M.1 := c0.ex y1 (fun z z1 z2 z3 => by omega)
  have y2 : Ex (fun z => d ≤ z ∧ z < d + 11) h1 (sI h1 d 5 (hI h1 s 5)) := Ex.sI ⟨by omega, by omega⟩
  have q2 : hI (sI h1 d 5 (hI h1 s 5)) d 5 = nI M.2.2.1 := by rw [hI_sI_eq, va_eq, n0 s (Or.inl rfl)]; exact hC.2.2.1
  have g2 : ∀ z, z ≠ d → hI (sI h1 d 5 (hI h1 s 5)) z = hI h1 z := fun z hz => hI_sI_ne hz
  generalize sI h1 d 5 (hI h1 s 5) = h2 at y2 q2 g2 ⊢
  have x2 := x1.trans y2
  have D2 := hD.sm x2.1
  have S2 := hS.sm x2.1
  rw [ck_p S2.1, S2.2.1.2.2.1, rq_s, ck_p D2.1, D2.2.1.2.2.1, rq_s, ck_p S2.2.2.2.2.1.1, ck_p D2.2.2.2.2.1.1, S2.2.2.2.2.1.2, D2.2.2.2.2.1.2, ck_p (by decide +kernel), ck_p (by decide +kernel), bd_e]
  have y3 : Ex (fun z => d ≤ z ∧ z < d + 11) h2 (sRow h2 (d + 8) (va_cpy (hI h2 (s + 8)) (hI h2 (d + 8)) (ix (0 : Int32)) (ix (0 : Int32)) (ix (8 : Int32)))) := Ex.sRow ⟨by omega, by omega⟩
  have f3 : hI (sRow h2 (d + 8) (va_cpy (hI h2 (s + 8)) (hI h2 (d + 8)) (ix (0 : Int32)) (ix (0 : Int32)) (ix (8 : Int32)))) (d + 8) = va_cpy (hI h2 (s + 8)) (hI h2 (d + 8)) (ix (0 : Int32)) (ix (0 : Int32)) (ix (8 : Int32)) := hI_row
  have g3 : ∀ z, z ≠ d + 8 → hI (sRow h2 (d + 8) (va_cpy (hI h2 (s + 8)) (hI h2 (d + 8)) (ix (0 : Int32)) (ix (0 : Int32)) (ix (8 : Int32)))) z = hI h2 z := fun z hz => hI_row_ne hz
  generalize sRow h2 (d + 8) (va_cpy (hI h2 (s + 8)) (hI h2 (d + 8)) (ix (0 : Int32)) (ix (0 : Int32)) (ix (8 : Int32))) = h3 at y3 f3 g3 ⊢
  have x3 := x2.trans y3
  have D3 := hD.sm x3.1
  have S3 := hS.sm x3.1
  rw [ck_p S3.1, S3.2.1.2.2.2.1, rq_s, ck_p D3.1, D3.2.1.2.2.2.1, rq_s, ck_p S3.2.2.2.2.2.1.1, ck_p D3.2.2.2.2.2.1.1, S3.2.2.2.2.2.1.2, D3.2.2.2.2.2.1.2, ck_p (by decide +kernel), ck_p (by decide +kernel), bd_e]
  have y4 : Ex (fun z => d ≤ z ∧ z < d + 11) h3 (sRow h3 (d + 9) (va_cpy (hI h3 (s + 9)) (hI h3 (d + 9)) (ix (0 : Int32)) (ix (0 : Int32)) (ix (8 : Int32)))) := Ex.sRow ⟨by omega, by omega⟩
  have f4 : hI (sRow h3 (d + 9) (va_cpy (hI h3 (s + 9)) (hI h3 (d + 9)) (ix (0 : Int32)) (ix (0 : Int32)) (ix (8 : Int32)))) (d + 9) = va_cpy (hI h3 (s + 9)) (hI h3 (d + 9)) (ix (0 : Int32)) (ix (0 : Int32)) (ix (8 : Int32)) := hI_row
  have g4 : ∀ z, z ≠ d + 9 → hI (sRow h3 (d + 9) (va_cpy (hI h3 (s + 9)) (hI h3 (d + 9)) (ix (0 : Int32)) (ix (0 : Int32)) (ix (8 : Int32)))) z = hI h3 z := fun z hz => hI_row_ne hz
  generalize sRow h3 (d + 9) (va_cpy (hI h3 (s + 9)) (hI h3 (d + 9)) (ix (0 : Int32)) (ix (0 : Int32)) (ix (8 : Int32))) = h4 at y4 f4 g4 ⊢
  have x4 := x3.trans y4
  have D4 := hD.sm x4.1
  have S4 := hS.sm x4.1
  rw [ck_p S4.1, S4.2.1.2.2.2.2, rq_s, ck_p D4.1, D4.2.1.2.2.2.2, rq_s, ck_p S4.2.2.2.2.2.2.1, ck_p D4.2.2.2.2.2.2.1, S4.2.2.2.2.2.2.2, D4.2.2.2.2.2.2.2, ck_p (by decide +kernel), ck_p (by decide +kernel), bd_e]
  have y5 : Ex (fun z => d ≤ z ∧ z < d + 11) h4 (sRow h4 (d + 10) (va_cpy (hI h4 (s + 10)) (hI h4 (d + 10)) (ix (0 : Int32)) (ix (0 : Int32)) (ix (8 : Int32)))) := Ex.sRow ⟨by omega, by omega⟩
  have f5 : hI (sRow h4 (d + 10) (va_cpy (hI h4 (s + 10)) (hI h4 (d + 10)) (ix (0 : Int32)) (ix (0 : Int32)) (ix (8 : Int32)))) (d + 10) = va_cpy (hI h4 (s + 10)) (hI h4 (d + 10)) (ix (0 : Int32)) (ix (0 : Int32)) (ix (8 : Int32)) := hI_row
  have g5 : ∀ z, z ≠ d + 10 → hI (sRow h4 (d + 10) (va_cpy (hI h4 (s + 10)) (hI h4 (d + 10)) (ix (0 : Int32)) (ix (0 : Int32)) (ix (8 : Int32)))) z = hI h4 z := fun z hz => hI_row_ne hz
  generalize sRow h4 (d + 10) (va_cpy (hI h4 (s + 10)) (hI h4 (d + 10)) (ix (0 : Int32)) (ix (0 : Int32)) (ix (8 : Int32))) = h5 at y5 f5 g5 ⊢
  have x5 := x4.trans y5
  have D5 := hD.sm x5.1
  have S5 := hS.sm x5.1
  have cp : ∀ (f g : Nat → Int32) k, k < M.2.2.1 → va_cpy f g (ix (0 : Int32)) (ix (0 : Int32)) (ix (8 : Int32)) k = f k := fun f g k hk => cpy_at (n := 8) (by omega) (by decide)
  refine ⟨h5, rfl, x5, ?_, ⟨?_, fun k hk => ?_⟩, ?_, fun k hk => ⟨?_, ?_, ?_⟩⟩
  · have e : ∀ z, inS (d + 1) z → hI h5 z = hI h1 z := fun z hz => by
      unfold inS at hz
      rw [g5 _ (by omega), g4 _ (by omega), g3 _ (by omega), g2 _ (by omega)]
    refine ⟨?_, fun k hk => ?_, fun k hk => ?_, fun k hk => ?_, fun k hk => ?_⟩
    · rw [e _ (by unfold inS; omega)]; exact cs1.1
    · rw [e _ (by unfold inS; omega)]; exact cs1.2.1 k hk
    · rw [e _ (by unfold inS; omega)]; exact cs1.2.2.1 k hk
    · rw [e _ (by unfold inS; omega)]; exact cs1.2.2.2.1 k hk
    · rw [e _ (by unfold inS; omega)]; exact cs1.2.2.2.2 k hk
  · rw [g5 _ (by omega), g4 _ (by omega), g3 _ (by omega), g2 _ (by omega)]; exact c1.1
  · rw [g5 _ (by omega), g4 _ (by omega), g3 _ (by omega), g2 _ (by omega)]; exact c1.2 k hk
  · rw [g5 _ (by omega), g4 _ (by omega), g3 _ (by omega)]; exact q2
  · rw [g5 _ (by omega), g4 _ (by omega), f3, cp _ _ k hk, g2 _ (by omega), n0 _ (by omega)]; exact (hC.2.2.2 k hk).1
  · rw [g5 _ (by omega), f4, cp _ _ k hk, g3 _ (by omega), g2 _ (by omega), n0 _ (by omega)]; exact (hC.2.2.2 k hk).2.1
  · rw [f5, cp _ _ k hk, g4 _ (by omega), g3 _ (by omega), g2 _ (by omega), n0 _ (by omega)]; exact (hC.2.2.2 k hk).2.2
end CPY
theorem RS.cp {r r' : Nat → Int32} {b e : Nat} {S : AS} (q : ∀ k, k < 32 → r' (e + k) = r (b + k)) (p : RS r b S) : RS r' e S :=
  ⟨(q 0 (by decide)).trans p.1, fun k hk => by rw [Nat.add_assoc, q _ (by omega), ← Nat.add_assoc]; exact p.2.1 k hk, fun k hk => by rw [Nat.add_assoc, q _ (by omega), ← Nat.add_assoc]; exact p.2.2.1 k hk, fun k hk => by rw [Nat.add_assoc, q _ (by omega), ← Nat.add_assoc]; exact p.2.2.2.1 k hk, fun k hk => by rw [Nat.add_assoc, q _ (by omega), ← Nat.add_assoc]; exact p.2.2.2.2 k hk⟩
section MCP
variable {N : Nat}
theorem m_cp3 {a c b e na nc : Nat} (hac : a ≠ c) (hb : b + 32 ≤ na) (he : e + 32 ≤ nc) (ha : na ≤ 2000) (hc : nc ≤ 2000) {F : Nat → Int32} : ∀ (n i : Nat) (h : PH), 32 < n + i → i ≤ 32 → IA h a na → IA h c nc → (∀ k, k < 32 → hI h a (b + k) = F k) → (∀ k, k < i → hI h c (e + k) = F k) → ∃ h', f_X11_copies_3 N n a (nI b) c (nI e) (nI i) h = some ((), h') ∧ Ex (fun z => z = c) h h' ∧ (∀ k, k < 32 → hI h' c (e + k) = F k) ∧ ∀ k, (k < e ∨ e + 32 ≤ k) → hI h' c k = hI h c k
  | 0, i, h, h1, h2, _, _, _, _ => by omega
  | n + 1, i, h, h1, h2, ia, ic, hF, hG => by
    show ∃ h', f_X11_copies_3_b N (f_X11_copies_3 N n) a _ c _ _ h = _ ∧ _
    unfold f_X11_copies_3_b
    rw [show (32 : Int32) = nI 32 from rfl, ite_i (nI_leI (by omega) (by omega))]
    by_cases q : 32 ≤ i
    · rw [if_pos q]
      exact ⟨h, rfl, Ex.rf, fun k hk => hG k (by omega), fun _ _ => rfl⟩
    · rw [if_neg q, ck_p ia.1, ia.2, nI_add, nI_add, ck_p (nI_ix (by omega) (by omega)), ck_p ic.1, ic.2, ck_p (nI_ix (by omega) (by omega)), ix_nI (by omega), ix_nI (by omega), hF i (by omega), bd_e, bd_e, nI_1]
      obtain ⟨h', r1, r2, r3, r4⟩ := m_cp3 hac hb he ha hc (F := F) n (i + 1) (sI h c (e + i) (F i)) (by omega) (by omega) (ia.sm Sm.sI) (ic.sm Sm.sI) (fun k hk => by rw [hI_sI_ne hac]; exact hF k hk) (fun k hk => by
        rw [hI_sI_eq]
        by_cases z : k = i
        · rw [z, va_eq]
        · rw [va_ne (by omega)]; exact hG k (by omega))
      refine ⟨h', r1, (Ex.sI (P := fun z => z = c) rfl).trans r2, r3, fun k hk => ?_⟩
      rw [r4 k hk, hI_sI_eq, va_ne (by omega)]
theorem m_copies (hN : 100 ≤ N) {h : PH} {a c b e na nc : Nat} (hac : a ≠ c) (hb : b + 32 ≤ na) (he : e + 32 ≤ nc) (ha : na ≤ 2000) (hc : nc ≤ 2000) (ia : IA h a na) (ic : IA h c nc) : ∃ h', f_X11_copies N a (nI b) c (nI e) h = some ((), h') ∧ Ex (fun z => z = c) h h' ∧ (∀ k, k < 32 → hI h' c (e + k) = hI h a (b + k)) ∧ ∀ k, (k < e ∨ e + 32 ≤ k) → hI h' c k = hI h c k :=
  m_cp3 hac hb he ha hc N 0 h (by omega) (by omega) ia ic (fun _ _ => rfl) (fun k hk => by omega)
/-- what a line's rows hold behind a copy of the first i of a slot's -/
def Ll (y f t i : Nat) (h0 h : PH) : Prop := ∀ r, 28 ≤ r → r ≤ 32 → (∀ k, k < i → hI h (y + r) (40 * t + k) = hI h0 (y + r) (40 * f + k)) ∧ ∀ k, (k < 40 * t ∨ 40 * t + i ≤ k) → hI h (y + r) k = hI h0 (y + r) k
theorem m_laysLines14 {y f t : Nat} (hft : f ≠ t) (hf : f ≤ 5) (ht : t ≤ 5) (hq1 : 40 * f + 40 ≤ 240) (hq2 : 40 * t + 40 ≤ 240) {h0 : PH} : ∀ (n i : Nat) (h : PH), 40 < n + i → i ≤ 40 → MD h y → Ll y f t i h0 h → ∃ h', f_X11_laysLines_14 N n y (nI f) (nI t) (nI i) h = some ((), h') ∧ Ex (fun z => y + 28 ≤ z ∧ z ≤ y + 32) h h' ∧ Ll y f t 40 h0 h'
  | 0, i, h, h1, h2, _, _ => by omega
  | n + 1, i, h, h1, h2, m, hL => by
    show ∃ h', f_X11_laysLines_14_b N (f_X11_laysLines_14 N n) y _ _ _ h = _ ∧ _
    unfold f_X11_laysLines_14_b
    have ef : (40 : Int32) * nI f + nI i = nI (40 * f + i) := by rw [show (40 : Int32) = nI 40 from rfl, pk_mul, nI_add]
    have et : (40 : Int32) * nI t + nI i = nI (40 * t + i) := by rw [show (40 : Int32) = nI 40 from rfl, pk_mul, nI_add]
    rw [ef, et, show (40 : Int32) = nI 40 from rfl, ite_i (nI_leI (by omega) (by omega))]
    by_cases q : 40 ≤ i
    · rw [if_pos q]
      exact ⟨h, rfl, Ex.rf, by rw [show 40 = i by omega]; exact hL⟩
    · have jf : inb (nI (40 * f + i)) 240 := nI_ix (by omega) (by omega)
      have jt : inb (nI (40 * t + i)) 240 := nI_ix (by omega) (by omega)
      have kf : ix (nI (40 * f + i)) = 40 * f + i := ix_nI (by omega)
      have kt : ix (nI (40 * t + i)) = 40 * t + i := ix_nI (by omega)
      rw [if_neg q]
      rw [ck_p m.1, mR_lineWhat m, rq_s, rq_s, ck_p (mK_lineWhat m), mN_lineWhat m, ck_p jf, ck_p (mK_lineWhat m), ck_p jt, kf, kt, bd_e]
      have y0 : Ex (fun z => y + 28 ≤ z ∧ z ≤ y + 32) h (sI h (y + 28) (40 * t + i) (hI h (y + 28) (40 * f + i))) := Ex.sI ⟨by omega, by omega⟩
      have f0 : hI (sI h (y + 28) (40 * t + i) (hI h (y + 28) (40 * f + i))) (y + 28) = va_up (hI h (y + 28)) (40 * t + i) (hI h (y + 28) (40 * f + i)) := hI_sI_eq
      have g0 : ∀ z, z ≠ y + 28 → hI (sI h (y + 28) (40 * t + i) (hI h (y + 28) (40 * f + i))) z = hI h z := fun z hz => hI_sI_ne hz
      have m0 : MD (sI h (y + 28) (40 * t + i) (hI h (y + 28) (40 * f + i))) y := m.sm Sm.sI
      generalize sI h (y + 28) (40 * t + i) (hI h (y + 28) (40 * f + i)) = ha at y0 f0 g0 m0 ⊢
      rw [ck_p m0.1, mR_lineA m0, rq_s, rq_s, ck_p (mK_lineA m0), mN_lineA m0, ck_p jf, ck_p (mK_lineA m0), ck_p jt, bd_e]
      have y1 : Ex (fun z => y + 28 ≤ z ∧ z ≤ y + 32) ha (sI ha (y + 29) (40 * t + i) (hI ha (y + 29) (40 * f + i))) := Ex.sI ⟨by omega, by omega⟩
      have f1 : hI (sI ha (y + 29) (40 * t + i) (hI ha (y + 29) (40 * f + i))) (y + 29) = va_up (hI ha (y + 29)) (40 * t + i) (hI ha (y + 29) (40 * f + i)) := hI_sI_eq
      have g1 : ∀ z, z ≠ y + 29 → hI (sI ha (y + 29) (40 * t + i) (hI ha (y + 29) (40 * f + i))) z = hI ha z := fun z hz => hI_sI_ne hz
      have m1 : MD (sI ha (y + 29) (40 * t + i) (hI ha (y + 29) (40 * f + i))) y := m0.sm Sm.sI
      generalize sI ha (y + 29) (40 * t + i) (hI ha (y + 29) (40 * f + i)) = hb at y1 f1 g1 m1 ⊢
      rw [ck_p m1.1, mR_lineB m1, rq_s, rq_s, ck_p (mK_lineB m1), mN_lineB m1, ck_p jf, ck_p (mK_lineB m1), ck_p jt, bd_e]
      have y2 : Ex (fun z => y + 28 ≤ z ∧ z ≤ y + 32) hb (sI hb (y + 30) (40 * t + i) (hI hb (y + 30) (40 * f + i))) := Ex.sI ⟨by omega, by omega⟩
      have f2 : hI (sI hb (y + 30) (40 * t + i) (hI hb (y + 30) (40 * f + i))) (y + 30) = va_up (hI hb (y + 30)) (40 * t + i) (hI hb (y + 30) (40 * f + i)) := hI_sI_eq
      have g2 : ∀ z, z ≠ y + 30 → hI (sI hb (y + 30) (40 * t + i) (hI hb (y + 30) (40 * f + i))) z = hI hb z := fun z hz => hI_sI_ne hz
      have m2 : MD (sI hb (y + 30) (40 * t + i) (hI hb (y + 30) (40 * f + i))) y := m1.sm Sm.sI
      generalize sI hb (y + 30) (40 * t + i) (hI hb (y + 30) (40 * f + i)) = hc at y2 f2 g2 m2 ⊢
      rw [ck_p m2.1, mR_lineC m2, rq_s, rq_s, ck_p (mK_lineC m2), mN_lineC m2, ck_p jf, ck_p (mK_lineC m2), ck_p jt, bd_e]
      have y3 : Ex (fun z => y + 28 ≤ z ∧ z ≤ y + 32) hc (sI hc (y + 31) (40 * t + i) (hI hc (y + 31) (40 * f + i))) := Ex.sI ⟨by omega, by omega⟩
      have f3 : hI (sI hc (y + 31) (40 * t + i) (hI hc (y + 31) (40 * f + i))) (y + 31) = va_up (hI hc (y + 31)) (40 * t + i) (hI hc (y + 31) (40 * f + i)) := hI_sI_eq
      have g3 : ∀ z, z ≠ y + 31 → hI (sI hc (y + 31) (40 * t + i) (hI hc (y + 31) (40 * f + i))) z = hI hc z := fun z hz => hI_sI_ne hz
      have m3 : MD (sI hc (y + 31) (40 * t + i) (hI hc (y + 31) (40 * f + i))) y := m2.sm Sm.sI
      generalize sI hc (y + 31) (40 * t + i) (hI hc (y + 31) (40 * f + i)) = hd at y3 f3 g3 m3 ⊢
      rw [ck_p m3.1, mR_lineN m3, rq_s, rq_s, ck_p (mK_lineN m3), mN_lineN m3, ck_p jf, ck_p (mK_lineN m3), ck_p jt, bd_e]
      have y4 : Ex (fun z => y + 28 ≤ z ∧ z ≤ y + 32) hd (sI hd (y + 32) (40 * t + i) (hI hd (y + 32) (40 * f + i))) := Ex.sI ⟨by omega, by omega⟩
      have f4 : hI (sI hd (y + 32) (40 * t + i) (hI hd (y + 32) (40 * f + i))) (y + 32) = va_up (hI hd (y + 32)) (40 * t + i) (hI hd (y + 32) (40 * f + i)) := hI_sI_eq
      have g4 : ∀ z, z ≠ y + 32 → hI (sI hd (y + 32) (40 * t + i) (hI hd (y + 32) (40 * f + i))) z = hI hd z := fun z hz => hI_sI_ne hz
      have m4 : MD (sI hd (y + 32) (40 * t + i) (hI hd (y + 32) (40 * f + i))) y := m3.sm Sm.sI
      generalize sI hd (y + 32) (40 * t + i) (hI hd (y + 32) (40 * f + i)) = he at y4 f4 g4 m4 ⊢
      rw [bd_e, nI_1]
      have gr : ∀ r, 28 ≤ r → r ≤ 32 → hI he (y + r) = va_up (hI h (y + r)) (40 * t + i) (hI h (y + r) (40 * f + i)) := by
        intro r r1 r2
        have cs : r = 28 ∨ r = 29 ∨ r = 30 ∨ r = 31 ∨ r = 32 := by omega
        rcases cs with rfl | rfl | rfl | rfl | rfl
        · rw [g4 _ (by omega), g3 _ (by omega), g2 _ (by omega), g1 _ (by omega), f0]
        · rw [g4 _ (by omega), g3 _ (by omega), g2 _ (by omega), f1]
          rw [g0 (y + 29) (by omega)]
        · rw [g4 _ (by omega), g3 _ (by omega), f2]
          rw [g1 (y + 30) (by omega)]
          rw [g0 (y + 30) (by omega)]
        · rw [g4 _ (by omega), f3]
          rw [g2 (y + 31) (by omega)]
          rw [g1 (y + 31) (by omega)]
          rw [g0 (y + 31) (by omega)]
        · rw [f4]
          rw [g3 (y + 32) (by omega)]
          rw [g2 (y + 32) (by omega)]
          rw [g1 (y + 32) (by omega)]
          rw [g0 (y + 32) (by omega)]
      have xx := ((((y0).trans y1).trans y2).trans y3).trans y4
      obtain ⟨h', r1, r2, r3⟩ := m_laysLines14 hft hf ht hq1 hq2 (h0 := h0) n (i + 1) he (by omega) (by omega) m4 (by
        intro r z1 z2
        obtain ⟨l1, l2⟩ := hL r z1 z2
        rw [gr r z1 z2]
        refine ⟨fun k hk => ?_, fun k hk => ?_⟩
        · by_cases z : k = i
          · rw [z, va_eq]; exact l2 _ (by omega)
          · rw [va_ne (by omega)]; exact l1 k (by omega)
        · rw [va_ne (by omega)]; exact l2 k (by omega))
      exact ⟨h', r1, xx.trans r2, r3⟩
/-- what a line's rows hold behind a copy of the first i of a slot's -/
def Ls (y f t i : Nat) (h0 h : PH) : Prop := ∀ r, 34 ≤ r → r ≤ 36 → (∀ k, k < i → hI h (y + r) (8 * t + k) = hI h0 (y + r) (8 * f + k)) ∧ ∀ k, (k < 8 * t ∨ 8 * t + i ≤ k) → hI h (y + r) k = hI h0 (y + r) k
theorem m_laysSeen14 {y f t : Nat} (hft : f ≠ t) (hf : f ≤ 5) (ht : t ≤ 5) (hq1 : 8 * f + 8 ≤ 40) (hq2 : 8 * t + 8 ≤ 40) {h0 : PH} : ∀ (n i : Nat) (h : PH), 8 < n + i → i ≤ 8 → MD h y → Ls y f t i h0 h → ∃ h', f_X11_laysSeen_14 N n y (nI f) (nI t) (nI i) h = some ((), h') ∧ Ex (fun z => y + 34 ≤ z ∧ z ≤ y + 36) h h' ∧ Ls y f t 8 h0 h'
  | 0, i, h, h1, h2, _, _ => by omega
  | n + 1, i, h, h1, h2, m, hL => by
    show ∃ h', f_X11_laysSeen_14_b N (f_X11_laysSeen_14 N n) y _ _ _ h = _ ∧ _
    unfold f_X11_laysSeen_14_b
    have ef : (8 : Int32) * nI f + nI i = nI (8 * f + i) := by rw [show (8 : Int32) = nI 8 from rfl, pk_mul, nI_add]
    have et : (8 : Int32) * nI t + nI i = nI (8 * t + i) := by rw [show (8 : Int32) = nI 8 from rfl, pk_mul, nI_add]
    rw [ef, et, show (8 : Int32) = nI 8 from rfl, ite_i (nI_leI (by omega) (by omega))]
    by_cases q : 8 ≤ i
    · rw [if_pos q]
      exact ⟨h, rfl, Ex.rf, by rw [show 8 = i by omega]; exact hL⟩
    · have jf : inb (nI (8 * f + i)) 40 := nI_ix (by omega) (by omega)
      have jt : inb (nI (8 * t + i)) 40 := nI_ix (by omega) (by omega)
      have kf : ix (nI (8 * f + i)) = 8 * f + i := ix_nI (by omega)
      have kt : ix (nI (8 * t + i)) = 8 * t + i := ix_nI (by omega)
      rw [if_neg q]
      rw [ck_p m.1, mR_seenWho m, rq_s, rq_s, ck_p (mK_seenWho m), mN_seenWho m, ck_p jf, ck_p (mK_seenWho m), ck_p jt, kf, kt, bd_e]
      have y0 : Ex (fun z => y + 34 ≤ z ∧ z ≤ y + 36) h (sI h (y + 34) (8 * t + i) (hI h (y + 34) (8 * f + i))) := Ex.sI ⟨by omega, by omega⟩
      have f0 : hI (sI h (y + 34) (8 * t + i) (hI h (y + 34) (8 * f + i))) (y + 34) = va_up (hI h (y + 34)) (8 * t + i) (hI h (y + 34) (8 * f + i)) := hI_sI_eq
      have g0 : ∀ z, z ≠ y + 34 → hI (sI h (y + 34) (8 * t + i) (hI h (y + 34) (8 * f + i))) z = hI h z := fun z hz => hI_sI_ne hz
      have m0 : MD (sI h (y + 34) (8 * t + i) (hI h (y + 34) (8 * f + i))) y := m.sm Sm.sI
      generalize sI h (y + 34) (8 * t + i) (hI h (y + 34) (8 * f + i)) = ha at y0 f0 g0 m0 ⊢
      rw [ck_p m0.1, mR_seenFlue m0, rq_s, rq_s, ck_p (mK_seenFlue m0), mN_seenFlue m0, ck_p jf, ck_p (mK_seenFlue m0), ck_p jt, bd_e]
      have y1 : Ex (fun z => y + 34 ≤ z ∧ z ≤ y + 36) ha (sI ha (y + 35) (8 * t + i) (hI ha (y + 35) (8 * f + i))) := Ex.sI ⟨by omega, by omega⟩
      have f1 : hI (sI ha (y + 35) (8 * t + i) (hI ha (y + 35) (8 * f + i))) (y + 35) = va_up (hI ha (y + 35)) (8 * t + i) (hI ha (y + 35) (8 * f + i)) := hI_sI_eq
      have g1 : ∀ z, z ≠ y + 35 → hI (sI ha (y + 35) (8 * t + i) (hI ha (y + 35) (8 * f + i))) z = hI ha z := fun z hz => hI_sI_ne hz
      have m1 : MD (sI ha (y + 35) (8 * t + i) (hI ha (y + 35) (8 * f + i))) y := m0.sm Sm.sI
      generalize sI ha (y + 35) (8 * t + i) (hI ha (y + 35) (8 * f + i)) = hb at y1 f1 g1 m1 ⊢
      rw [ck_p m1.1, mR_seenSign m1, rq_s, rq_s, ck_p (mK_seenSign m1), mN_seenSign m1, ck_p jf, ck_p (mK_seenSign m1), ck_p jt, bd_e]
      have y2 : Ex (fun z => y + 34 ≤ z ∧ z ≤ y + 36) hb (sI hb (y + 36) (8 * t + i) (hI hb (y + 36) (8 * f + i))) := Ex.sI ⟨by omega, by omega⟩
      have f2 : hI (sI hb (y + 36) (8 * t + i) (hI hb (y + 36) (8 * f + i))) (y + 36) = va_up (hI hb (y + 36)) (8 * t + i) (hI hb (y + 36) (8 * f + i)) := hI_sI_eq
      have g2 : ∀ z, z ≠ y + 36 → hI (sI hb (y + 36) (8 * t + i) (hI hb (y + 36) (8 * f + i))) z = hI hb z := fun z hz => hI_sI_ne hz
      have m2 : MD (sI hb (y + 36) (8 * t + i) (hI hb (y + 36) (8 * f + i))) y := m1.sm Sm.sI
      generalize sI hb (y + 36) (8 * t + i) (hI hb (y + 36) (8 * f + i)) = hc at y2 f2 g2 m2 ⊢
      rw [bd_e, nI_1]
      have gr : ∀ r, 34 ≤ r → r ≤ 36 → hI hc (y + r) = va_up (hI h (y + r)) (8 * t + i) (hI h (y + r) (8 * f + i)) := by
        intro r r1 r2
        have cs : r = 34 ∨ r = 35 ∨ r = 36 := by omega
        rcases cs with rfl | rfl | rfl
        · rw [g2 _ (by omega), g1 _ (by omega), f0]
        · rw [g2 _ (by omega), f1]
          rw [g0 (y + 35) (by omega)]
        · rw [f2]
          rw [g1 (y + 36) (by omega)]
          rw [g0 (y + 36) (by omega)]
      have xx := ((y0).trans y1).trans y2
      obtain ⟨h', r1, r2, r3⟩ := m_laysSeen14 hft hf ht hq1 hq2 (h0 := h0) n (i + 1) hc (by omega) (by omega) m2 (by
        intro r z1 z2
        obtain ⟨l1, l2⟩ := hL r z1 z2
        rw [gr r z1 z2]
        refine ⟨fun k hk => ?_, fun k hk => ?_⟩
        · by_cases z : k = i
          · rw [z, va_eq]; exact l2 _ (by omega)
          · rw [va_ne (by omega)]; exact l1 k (by omega)
        · rw [va_ne (by omega)]; exact l2 k (by omega))
      exact ⟨h', r1, xx.trans r2, r3⟩
theorem m_laysLines (hN : 100 ≤ N) {h : PH} {y f t : Nat} (hft : f ≠ t) (hf : f ≤ 5) (ht : t ≤ 5) (m : MD h y) : ∃ h', f_X11_laysLines N y (nI f) (nI t) h = some ((), h') ∧ Ex (fun z => y + 27 ≤ z ∧ z ≤ y + 32) h h' ∧ hI h' (y + 27) = va_up (hI h (y + 27)) t (hI h (y + 27) f) ∧ Ll y f t 40 h h' := by
  unfold f_X11_laysLines
  rw [ck_p m.1, mR_lines m, rq_s, rq_s, ck_p (mK_lines m), mN_lines m, ck_p (nI_ix (by omega) (by omega)), ck_p (mK_lines m), ck_p (nI_ix (by omega) (by omega)), ix_nI (by omega), ix_nI (by omega), bd_e]
  have x0 : Ex (fun z => y + 27 ≤ z ∧ z ≤ y + 32) h (sI h (y + 27) t (hI h (y + 27) f)) := Ex.sI ⟨by omega, by omega⟩
  obtain ⟨h', r1, r2, r3⟩ := m_laysLines14 (N := N) hft (by omega) (by omega) (by omega) (by omega) (h0 := h) N 0 (sI h (y + 27) t (hI h (y + 27) f)) (by omega) (by omega) (m.sm Sm.sI) (fun r z1 z2 => by
    rw [hI_sI_ne (by omega)]
    exact ⟨fun k hk => by omega, fun _ _ => rfl⟩)
  refine ⟨h', r1, x0.trans (r2.mono (fun z hz => by omega)), ?_, r3⟩
  rw [r2.2.2.2 _ (by omega), hI_sI_eq]
theorem m_laysSeen (hN : 100 ≤ N) {h : PH} {y f t : Nat} (hft : f ≠ t) (hf : f ≤ 4) (ht : t ≤ 4) (m : MD h y) : ∃ h', f_X11_laysSeen N y (nI f) (nI t) h = some ((), h') ∧ Ex (fun z => y + 33 ≤ z ∧ z ≤ y + 36) h h' ∧ hI h' (y + 33) = va_up (hI h (y + 33)) t (hI h (y + 33) f) ∧ Ls y f t 8 h h' := by
  unfold f_X11_laysSeen
  rw [ck_p m.1, mR_seens m, rq_s, rq_s, ck_p (mK_seens m), mN_seens m, ck_p (nI_ix (by omega) (by omega)), ck_p (mK_seens m), ck_p (nI_ix (by omega) (by omega)), ix_nI (by omega), ix_nI (by omega), bd_e]
  have x0 : Ex (fun z => y + 33 ≤ z ∧ z ≤ y + 36) h (sI h (y + 33) t (hI h (y + 33) f)) := Ex.sI ⟨by omega, by omega⟩
  obtain ⟨h', r1, r2, r3⟩ := m_laysSeen14 (N := N) hft (by omega) (by omega) (by omega) (by omega) (h0 := h) N 0 (sI h (y + 33) t (hI h (y + 33) f)) (by omega) (by omega) (m.sm Sm.sI) (fun r z1 z2 => by
    rw [hI_sI_ne (by omega)]
    exact ⟨fun k hk => by omega, fun _ _ => rfl⟩)
  refine ⟨h', r1, x0.trans (r2.mono (fun z hz => by omega)), ?_, r3⟩
  rw [r2.2.2.2 _ (by omega), hI_sI_eq]
theorem RD.lay {h h' : PH} {y f t : Nat} {D : AD} (e : hI h' (y + 27) = va_up (hI h (y + 27)) t (hI h (y + 27) f)) (l : Ll y f t 40 h h') (hn : D.1 ≤ 40) (p : RD h y f D) : RD h' y t D := by
  refine ⟨by rw [e, va_eq]; exact p.1, fun k hk => ?_⟩
  have q : ∀ r, 28 ≤ r → r ≤ 32 → hI h' (y + r) (40 * t + k) = hI h (y + r) (40 * f + k) := fun r r1 r2 => (l r r1 r2).1 k (by omega)
  rw [q 28 (by decide) (by decide), q 29 (by decide) (by decide), q 30 (by decide) (by decide), q 31 (by decide) (by decide), q 32 (by decide) (by decide)]
  exact p.2 k hk
theorem RD.oth {h h' : PH} {y f t u : Nat} {D : AD} (hu : u ≠ t) (e : hI h' (y + 27) = va_up (hI h (y + 27)) t (hI h (y + 27) f)) (l : Ll y f t 40 h h') (hn : D.1 ≤ 40) (p : RD h y u D) : RD h' y u D := by
  refine ⟨by rw [e, va_ne hu]; exact p.1, fun k hk => ?_⟩
  have q : ∀ r, 28 ≤ r → r ≤ 32 → hI h' (y + r) (40 * u + k) = hI h (y + r) (40 * u + k) := fun r r1 r2 => (l r r1 r2).2 _ (by omega)
  rw [q 28 (by decide) (by decide), q 29 (by decide) (by decide), q 30 (by decide) (by decide), q 31 (by decide) (by decide), q 32 (by decide) (by decide)]
  exact p.2 k hk
theorem RR.lay {h h' : PH} {y f t : Nat} {R : AR} (e : hI h' (y + 33) = va_up (hI h (y + 33)) t (hI h (y + 33) f)) (l : Ls y f t 8 h h') (hn : R.1 ≤ 8) (p : RR h y f R) : RR h' y t R := by
  refine ⟨by rw [e, va_eq]; exact p.1, fun k hk => ?_⟩
  have q : ∀ r, 34 ≤ r → r ≤ 36 → hI h' (y + r) (8 * t + k) = hI h (y + r) (8 * f + k) := fun r r1 r2 => (l r r1 r2).1 k (by omega)
  rw [q 34 (by decide) (by decide), q 35 (by decide) (by decide), q 36 (by decide) (by decide)]
  exact p.2 k hk
theorem RR.oth {h h' : PH} {y f t u : Nat} {R : AR} (hu : u ≠ t) (e : hI h' (y + 33) = va_up (hI h (y + 33)) t (hI h (y + 33) f)) (l : Ls y f t 8 h h') (hn : R.1 ≤ 8) (p : RR h y u R) : RR h' y u R := by
  refine ⟨by rw [e, va_ne hu]; exact p.1, fun k hk => ?_⟩
  have q : ∀ r, 34 ≤ r → r ≤ 36 → hI h' (y + r) (8 * u + k) = hI h (y + r) (8 * u + k) := fun r r1 r2 => (l r r1 r2).2 _ (by omega)
  rw [q 34 (by decide) (by decide), q 35 (by decide) (by decide), q 36 (by decide) (by decide)]
  exact p.2 k hk
theorem m_keeps49 (hN : 100 ≤ N) {h : PH} {y pc : Nat} (m : MD h y) (hp : pc < 16) (e : hI h y 54 = nI pc) : ∃ h', f_X11_keeps_49 N y h = some ((), h') ∧ Ex (fun z => z = y ∨ z = y + 40) h h' ∧ hI h' y = va_up (hI h y) 54 (nI (pc + 1)) ∧ (∀ k, k < 32 → hI h' (y + 40) (32 * pc + k) = hI h (y + 37) (0 + k)) ∧ ∀ k, (k < 32 * pc ∨ 32 * pc + 32 ≤ k) → hI h' (y + 40) k = hI h (y + 40) k := by
  unfold f_X11_keeps_49
  have e2 : (32 : Int32) * nI pc = nI (32 * pc) := pk_mul 32 pc
  obtain ⟨h1, r1, r2, r3, r4⟩ := m_copies hN (h := h) (a := y + 37) (c := y + 40) (b := 0) (e := 32 * pc) (na := 32) (nc := 512) (by omega) (by omega) (by omega) (by decide) (by decide) ⟨mK_s m, mN_s m⟩ ⟨mK_undone m, mN_undone m⟩
  have m1 := m.sm r2.1
  have ey : hI h1 y = hI h y := r2.2.2.2 y (by omega)
  have r1 : f_X11_copies N (y + 37) 0 (y + 40) (nI (32 * pc)) h = some ((), h1) := r1
  rw [ck_p m.1, mR_s m, rq_s, mR_undone m, rq_s, e, e2, r1, cl_s, ck_p m1.1, ey, e, nI_1, bd_e]
  refine ⟨_, rfl, (r2.mono (fun z hz => Or.inr hz)).trans (Ex.sI (Or.inl rfl)), ?_, fun k hk => ?_, fun k hk => ?_⟩
  · rw [hI_sI_eq, ey]
  · rw [hI_sI_ne (by omega)]; exact r3 k hk
  · rw [hI_sI_ne (by omega)]; exact r4 k hk
theorem m_keeps11 (hN : 100 ≤ N) {y : Nat} {r0 : Nat → Int32} : ∀ (n i : Nat) (h : PH), 480 < n + i → i ≤ 480 → MD h y → hI h y 54 = nI 16 → (∀ k, k < i → hI h (y + 40) k = r0 (k + 32)) → (∀ k, i ≤ k → hI h (y + 40) k = r0 k) → ∃ h', f_X11_keeps_11 N n y (nI i) h = some ((), h') ∧ Ex (fun z => z = y ∨ z = y + 40) h h' ∧ (∀ k, k ≠ 54 → hI h' y k = hI h y k) ∧ hI h' y 54 = nI 16 ∧ (∀ k, k < 32 → hI h' (y + 40) (480 + k) = hI h (y + 37) (0 + k)) ∧ ∀ k, k < 480 → hI h' (y + 40) k = r0 (k + 32)
  | 0, i, h, h1, h2, _, _, _, _ => by omega
  | n + 1, i, h, h1, h2, m, e, hA, hB => by
    show ∃ h', f_X11_keeps_11_b N (f_X11_keeps_11 N n) y _ h = _ ∧ _
    unfold f_X11_keeps_11_b
    rw [show (480 : Int32) = nI 480 from rfl, ite_i (nI_leI (by omega) (by omega))]
    by_cases q : 480 ≤ i
    · have e15 : nI 16 - (1 : Int32) = nI 15 := nI_pred 15
      rw [if_pos q, ck_p m.1, e, e15, bd_e]
      have x0 : Ex (fun z => z = y ∨ z = y + 40) h (sI h y 54 (nI 15)) := Ex.sI (Or.inl rfl)
      obtain ⟨h', r1, r2, r3, r4, r5⟩ := m_keeps49 (N := N) hN (h := sI h y 54 (nI 15)) (y := y) (pc := 15) (m.sm Sm.sI) (by decide) (by rw [hI_sI_eq, va_eq])
      refine ⟨h', r1, x0.trans r2, fun k hk => ?_, ?_, fun k hk => ?_, fun k hk => ?_⟩
      · rw [r3, va_ne hk, hI_sI_eq, va_ne hk]
      · rw [r3, va_eq]
      · rw [show 480 + k = 32 * 15 + k by omega, r4 k hk, hI_sI_ne (by omega)]
      · rw [r5 k (by omega), hI_sI_ne (by omega)]; exact hA k (by omega)
    · have e32 : nI i + (32 : Int32) = nI (i + 32) := nI_add i 32
      have ji : inb (nI i) 512 := nI_ix (by omega) (by omega)
      have ji2 : inb (nI (i + 32)) 512 := nI_ix (by omega) (by omega)
      rw [if_neg q, ck_p m.1, mR_undone m, rq_s, rq_s, ck_p (mK_undone m), mN_undone m, e32, ck_p ji2, ck_p (mK_undone m), ck_p ji, ix_nI (by omega), ix_nI (by omega), bd_e, bd_e, nI_1, hB (i + 32) (by omega)]
      have x0 : Ex (fun z => z = y ∨ z = y + 40) h (sI h (y + 40) i (r0 (i + 32))) := Ex.sI (Or.inr rfl)
      obtain ⟨h', r1, r2, r3, r4, r5, r6⟩ := m_keeps11 hN (r0 := r0) n (i + 1) (sI h (y + 40) i (r0 (i + 32))) (by omega) (by omega) (m.sm Sm.sI) (by rw [hI_sI_ne (by omega)]; exact e) (fun k hk => by
        rw [hI_sI_eq]
        by_cases z : k = i
        · rw [z, va_eq]
        · rw [va_ne z]; exact hA k (by omega)) (fun k hk => by rw [hI_sI_eq, va_ne (by omega)]; exact hB k (by omega))
      refine ⟨h', r1, x0.trans r2, fun k hk => ?_, r4, fun k hk => ?_, r6⟩
      · rw [r3 k hk, hI_sI_ne (by omega)]
      · rw [r5 k hk, hI_sI_ne (by omega)]
/-- a state is kept: those that can be undone behind it -/
def pushP (P : Nat → AS) (pc : Nat) (S : AS) : Nat → AS := fun i => if pc = 16 then (if i = 15 then S else P (i + 1)) else if i = pc then S else P i
theorem m_keeps (hN : 1000 ≤ N) {h : PH} {y pc : Nat} {S : AS} {P : Nat → AS} (m : MD h y) (hp : pc ≤ 16) (e : hI h y 54 = nI pc) (hS : RS (hI h (y + 37)) 0 S) (hP : ∀ i, i < pc → RS (hI h (y + 40)) (32 * i) (P i)) : ∃ h', f_X11_keeps N y h = some ((), h') ∧ Ex (fun z => z = y ∨ z = y + 40) h h' ∧ (∀ k, k ≠ 54 → hI h' y k = hI h y k) ∧ hI h' y 54 = nI (min (pc + 1) 16) ∧ ∀ i, i < min (pc + 1) 16 → RS (hI h' (y + 40)) (32 * i) (pushP P pc S i) := by
  unfold f_X11_keeps
  rw [ck_p m.1, e, show (16 : Int32) = nI 16 from rfl, ite_i (nI_eq (by omega) (by omega))]
  by_cases q : pc = 16
  · rw [if_pos q]
    obtain ⟨h', r1, r2, r3, r4, r5, r6⟩ := m_keeps11 (N := N) (by omega) (r0 := hI h (y + 40)) N 0 h (by omega) (by omega) m (by rw [e, q]) (fun k hk => by omega) (fun _ _ => rfl)
    refine ⟨h', r1, r2, r3, by rw [r4, q]; rfl, fun i hi => ?_⟩
    unfold pushP
    rw [if_pos q]
    by_cases c : i = 15
    · rw [if_pos c, c]
      exact hS.cp r5
    · rw [if_neg c]
      refine (hP (i + 1) (by omega)).cp (fun k hk => ?_)
      rw [r6 _ (by omega), show 32 * i + k + 32 = 32 * (i + 1) + k by omega]
  · rw [if_neg q]
    obtain ⟨h', r1, r2, r3, r4, r5⟩ := m_keeps49 (N := N) (by omega) m (show pc < 16 by omega) e
    refine ⟨h', r1, r2, fun k hk => by rw [r3, va_ne hk], by rw [r3, va_eq, show min (pc + 1) 16 = pc + 1 by omega], fun i hi => ?_⟩
    unfold pushP
    rw [if_neg q]
    by_cases c : i = pc
    · rw [if_pos c, c]
      exact hS.cp r4
    · rw [if_neg c]
      refine (hP i (by omega)).cp (fun k hk => ?_)
      rw [r5 _ (by omega)]
end MCP
/-- the class keeps its state -/
theorem c_remember {N : Nat} {h : PH} {x v w pn pc : Nat} {S : AS} (ob : OB h x v w) (hC : CS h (x + 3 + 1) S) (hn : pn < 16) (hp : pc ≤ 16) (e11 : hI h x 13 = nI pn) (e12 : hI h x 14 = nI pc) : ∃ h', f_X10_remember N x h = some ((), h') ∧ Ex (fun z => z = x ∨ inS (x + 123 + 5 * pn) z) h h' ∧ hI h' x = va_up (va_up (hI h x) 13 (nI ((pn + 1) % 16))) 14 (nI (min (pc + 1) 16)) ∧ CS h' (x + 123 + 5 * pn) S := by
  obtain ⟨d, l, p1, ⟨r0, r1, r2, r3, r4, r5, r6, r7, r8, r9⟩, pt, pm, pk, ⟨⟨b1, b2⟩, b3⟩, prest⟩ := ob
  unfold f_X10_remember
  obtain ⟨h1, q1, q2, q3⟩ := c_copy (N := N) (h := h) (d := x + 123 + 5 * pn) (s := x + 3 + 1) (by omega) (b3 pn hn).2 pm.2.2.1 hC
  have k1 : hK h1 x = 9 := by rw [q2.1.1]; exact p1
  have ex1 : hI h1 x = hI h x := q2.2.2.2 x (by unfold inS; omega)
  rw [ck_p p1, r3, rq_s, ck_p b1, b2, e11, ck_p (nI_ix hn (by decide)), ix_nI (by omega), (b3 pn hn).1, rq_s, r1, rq_s, ck_p pm.1, pm.2.1.1, rq_s, ck_p (b3 pn hn).2.1, q1, cl_s, ck_p k1, ex1, e11, nI_1, show (16 : Int32) = nI 16 from rfl, pk_rem (by omega) (by decide) (by decide), bd_e]
  have k2 : hK (sI h1 x 13 (nI ((pn + 1) % 16))) x = 9 := k1
  have e12' : hI (sI h1 x 13 (nI ((pn + 1) % 16))) x 14 = nI pc := by rw [hI_sI_eq, va_ne (by decide), ex1]; exact e12
  rw [ck_p k2, e12', nI_1, min9 (by omega) (by decide), bd_e]
  have x1 : Ex (fun z => z = x ∨ inS (x + 123 + 5 * pn) z) h1 (sI (sI h1 x 13 (nI ((pn + 1) % 16))) x 14 (nI (min (pc + 1) 16))) := (Ex.sI (Or.inl rfl)).trans (Ex.sI (Or.inl rfl))
  refine ⟨_, rfl, (q2.mono (fun z hz => Or.inr hz)).trans x1, ?_, ?_⟩
  · rw [hI_sI_eq, hI_sI_eq, ex1]
  · refine q3.ex (P := fun z => z = x) (Ex.trans (P := fun z => z = x) (Ex.sI (P := fun z => z = x) rfl) (Ex.sI (P := fun z => z = x) rfl)) (fun z z1 z2 z3 => by omega)
