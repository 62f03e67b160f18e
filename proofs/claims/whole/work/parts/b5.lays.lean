/-! What the reference has read lies where the valley is. -/
def LY (y : Nat) (h h' : PH) : Prop := Sm h h' ∧ hz h' = hz h ∧ (∀ z, (z < y + 2 ∨ y + 14 < z) → hI h' z = hI h z) ∧ (∀ z, z ≠ y + 3 → hJ h' z = hJ h z) ∧ (∀ k, k < 6 → hI h' (y + 2) k = hI h (y + 2) (6 + k)) ∧ (∀ k, k < 22 → hJ h' (y + 3) k = hJ h (y + 3) (22 + k)) ∧ (∀ k, k < 5 → hI h' (y + 4) k = hI h (y + 4) (5 + k)) ∧ (∀ k, k < 5 → hI h' (y + 5) k = hI h (y + 5) (5 + k)) ∧ (∀ k, k < 5 → hI h' (y + 6) k = hI h (y + 6) (5 + k)) ∧ (∀ k, k < 4 → hI h' (y + 7) k = hI h (y + 7) (4 + k)) ∧ (∀ k, k < 20 → hI h' (y + 8) k = hI h (y + 8) (20 + k)) ∧ (∀ k, k < 24 → hI h' (y + 9) k = hI h (y + 9) (24 + k)) ∧ (∀ k, k < 4 → hI h' (y + 10) k = hI h (y + 10) (4 + k)) ∧ (∀ k, k < 12 → hI h' (y + 11) k = hI h (y + 11) (12 + k)) ∧ (∀ k, k < 1000 → hI h' (y + 14) k = hI h (y + 14) (1000 + k))
section LAZ
variable {N y : Nat} {h h' : PH}
theorem m_lays (hN : 2000 ≤ N) {f0 f1 t0 t1 : Nat} (M : MD h y) (k0 : 1000 ≤ f0) (k1 : 1000 ≤ f1) (k2 : 1000 ≤ t0) (k3 : 1000 ≤ t1) (e0 : hI h (y + 12) 2 = nI f0) (e1 : hI h (y + 12) 3 = nI f1) (e2 : hI h (y + 13) 2 = nI t0) (e3 : hI h (y + 13) 3 = nI t1) : ∃ h', f_X11_lays N y h = some ((), h') ∧ LY y h h' ∧ hI h' (y + 12) 0 = nI (f0 - 1000) ∧ hI h' (y + 12) 1 = nI (f1 - 1000) ∧ hI h' (y + 13) 0 = nI (t0 - 1000) ∧ hI h' (y + 13) 1 = nI (t1 - 1000) := by
  obtain ⟨g1, a1, x1, r2⟩ := m_shift (N := N) (a := y + 2) (m := 6) (n0 := 12) hN (by decide) (by decide) (⟨mK_valley M, mN_valley M⟩ : IA h (y + 2) 12)
  have a1 : f_X11_shifts N (y + 2) 6 h = _ := a1
  have M1 := M.sm x1.1
  obtain ⟨g2, a2, ⟨x2, z2, i2, j2⟩, n2, -⟩ := m_l11 (N := N) N 0 g1 M1 (Nat.zero_le _) (by omega)
  have a2 : f_X11_lays_11 N N y 0 g1 = _ := a2
  have M2 := M1.sm x2
  obtain ⟨g3, a3, x3, s4⟩ := m_shift (N := N) (a := y + 4) (m := 5) (n0 := 10) hN (by decide) (by decide) (⟨mK_fuelDark M2, mN_fuelDark M2⟩ : IA g2 (y + 4) 10)
  have a3 : f_X11_shifts N (y + 4) 5 g2 = _ := a3
  have M3 := M2.sm x3.1
  obtain ⟨g4, a4, x4, s5⟩ := m_shift (N := N) (a := y + 5) (m := 5) (n0 := 10) hN (by decide) (by decide) (⟨mK_fuelSweet M3, mN_fuelSweet M3⟩ : IA g3 (y + 5) 10)
  have a4 : f_X11_shifts N (y + 5) 5 g3 = _ := a4
  have M4 := M3.sm x4.1
  obtain ⟨g5, a5, x5, s6⟩ := m_shift (N := N) (a := y + 6) (m := 5) (n0 := 10) hN (by decide) (by decide) (⟨mK_fuelLong M4, mN_fuelLong M4⟩ : IA g4 (y + 6) 10)
  have a5 : f_X11_shifts N (y + 6) 5 g4 = _ := a5
  have M5 := M4.sm x5.1
  obtain ⟨g6, a6, x6, s7⟩ := m_shift (N := N) (a := y + 7) (m := 4) (n0 := 8) hN (by decide) (by decide) (⟨mK_houseAt M5, mN_houseAt M5⟩ : IA g5 (y + 7) 8)
  have a6 : f_X11_shifts N (y + 7) 4 g5 = _ := a6
  have M6 := M5.sm x6.1
  obtain ⟨g7, a7, x7, s8⟩ := m_shift (N := N) (a := y + 8) (m := 20) (n0 := 40) hN (by decide) (by decide) (⟨mK_stockTold M6, mN_stockTold M6⟩ : IA g6 (y + 8) 40)
  have a7 : f_X11_shifts N (y + 8) 20 g6 = _ := a7
  have M7 := M6.sm x7.1
  obtain ⟨g8, a8, x8, s9⟩ := m_shift (N := N) (a := y + 9) (m := 24) (n0 := 48) hN (by decide) (by decide) (⟨mK_signs M7, mN_signs M7⟩ : IA g7 (y + 9) 48)
  have a8 : f_X11_shifts N (y + 9) 24 g7 = _ := a8
  have M8 := M7.sm x8.1
  obtain ⟨g9, a9, x9, s10⟩ := m_shift (N := N) (a := y + 10) (m := 4) (n0 := 8) hN (by decide) (by decide) (⟨mK_sight M8, mN_sight M8⟩ : IA g8 (y + 10) 8)
  have a9 : f_X11_shifts N (y + 10) 4 g8 = _ := a9
  have M9 := M8.sm x9.1
  obtain ⟨g10, a10, x10, s11⟩ := m_shift (N := N) (a := y + 11) (m := 12) (n0 := 24) hN (by decide) (by decide) (⟨mK_wind M9, mN_wind M9⟩ : IA g9 (y + 11) 24)
  have a10 : f_X11_shifts N (y + 11) 12 g9 = _ := a10
  have M10 := M9.sm x10.1
  obtain ⟨g11, a11, x11, s14⟩ := m_shift (N := N) (a := y + 14) (m := 1000) (n0 := 2000) hN (by decide) (by decide) (⟨mK_codes M10, mN_codes M10⟩ : IA g10 (y + 14) 2000)
  have a11 : f_X11_shifts N (y + 14) 1000 g10 = _ := a11
  have M11 := M10.sm x11.1
  have keep : ∀ z, z ≠ y + 2 → z ≠ y + 4 → z ≠ y + 5 → z ≠ y + 6 → z ≠ y + 7 → z ≠ y + 8 → z ≠ y + 9 → z ≠ y + 10 → z ≠ y + 11 → z ≠ y + 14 → hI g11 z = hI h z := fun z q2 q4 q5 q6 q7 q8 q9 q10 q11 q14 => by
    rw [x11.2.2.2 z q14, x10.2.2.2 z q11, x9.2.2.2 z q10, x8.2.2.2 z q9, x7.2.2.2 z q8, x6.2.2.2 z q7, x5.2.2.2 z q6, x4.2.2.2 z q5, x3.2.2.2 z q4, i2, x1.2.2.2 z q2]
  have w4 : ∀ k, k < 5 → hI g11 (y + 4) k = hI h (y + 4) (5 + k) := fun k hk => by
    rw [x11.2.2.2 _ (by omega), x10.2.2.2 _ (by omega), x9.2.2.2 _ (by omega), x8.2.2.2 _ (by omega), x7.2.2.2 _ (by omega), x6.2.2.2 _ (by omega), x5.2.2.2 _ (by omega), x4.2.2.2 _ (by omega), s4 k hk, i2, x1.2.2.2 _ (by omega)]
  have w5 : ∀ k, k < 5 → hI g11 (y + 5) k = hI h (y + 5) (5 + k) := fun k hk => by
    rw [x11.2.2.2 _ (by omega), x10.2.2.2 _ (by omega), x9.2.2.2 _ (by omega), x8.2.2.2 _ (by omega), x7.2.2.2 _ (by omega), x6.2.2.2 _ (by omega), x5.2.2.2 _ (by omega), s5 k hk, x3.2.2.2 _ (by omega), i2, x1.2.2.2 _ (by omega)]
  have w6 : ∀ k, k < 5 → hI g11 (y + 6) k = hI h (y + 6) (5 + k) := fun k hk => by
    rw [x11.2.2.2 _ (by omega), x10.2.2.2 _ (by omega), x9.2.2.2 _ (by omega), x8.2.2.2 _ (by omega), x7.2.2.2 _ (by omega), x6.2.2.2 _ (by omega), s6 k hk, x4.2.2.2 _ (by omega), x3.2.2.2 _ (by omega), i2, x1.2.2.2 _ (by omega)]
  have w7 : ∀ k, k < 4 → hI g11 (y + 7) k = hI h (y + 7) (4 + k) := fun k hk => by
    rw [x11.2.2.2 _ (by omega), x10.2.2.2 _ (by omega), x9.2.2.2 _ (by omega), x8.2.2.2 _ (by omega), x7.2.2.2 _ (by omega), s7 k hk, x5.2.2.2 _ (by omega), x4.2.2.2 _ (by omega), x3.2.2.2 _ (by omega), i2, x1.2.2.2 _ (by omega)]
  have w8 : ∀ k, k < 20 → hI g11 (y + 8) k = hI h (y + 8) (20 + k) := fun k hk => by
    rw [x11.2.2.2 _ (by omega), x10.2.2.2 _ (by omega), x9.2.2.2 _ (by omega), x8.2.2.2 _ (by omega), s8 k hk, x6.2.2.2 _ (by omega), x5.2.2.2 _ (by omega), x4.2.2.2 _ (by omega), x3.2.2.2 _ (by omega), i2, x1.2.2.2 _ (by omega)]
  have w9 : ∀ k, k < 24 → hI g11 (y + 9) k = hI h (y + 9) (24 + k) := fun k hk => by
    rw [x11.2.2.2 _ (by omega), x10.2.2.2 _ (by omega), x9.2.2.2 _ (by omega), s9 k hk, x7.2.2.2 _ (by omega), x6.2.2.2 _ (by omega), x5.2.2.2 _ (by omega), x4.2.2.2 _ (by omega), x3.2.2.2 _ (by omega), i2, x1.2.2.2 _ (by omega)]
  have w10 : ∀ k, k < 4 → hI g11 (y + 10) k = hI h (y + 10) (4 + k) := fun k hk => by
    rw [x11.2.2.2 _ (by omega), x10.2.2.2 _ (by omega), s10 k hk, x8.2.2.2 _ (by omega), x7.2.2.2 _ (by omega), x6.2.2.2 _ (by omega), x5.2.2.2 _ (by omega), x4.2.2.2 _ (by omega), x3.2.2.2 _ (by omega), i2, x1.2.2.2 _ (by omega)]
  have w11 : ∀ k, k < 12 → hI g11 (y + 11) k = hI h (y + 11) (12 + k) := fun k hk => by
    rw [x11.2.2.2 _ (by omega), s11 k hk, x9.2.2.2 _ (by omega), x8.2.2.2 _ (by omega), x7.2.2.2 _ (by omega), x6.2.2.2 _ (by omega), x5.2.2.2 _ (by omega), x4.2.2.2 _ (by omega), x3.2.2.2 _ (by omega), i2, x1.2.2.2 _ (by omega)]
  have w14 : ∀ k, k < 1000 → hI g11 (y + 14) k = hI h (y + 14) (1000 + k) := fun k hk => by
    rw [s14 k hk, x10.2.2.2 _ (by omega), x9.2.2.2 _ (by omega), x8.2.2.2 _ (by omega), x7.2.2.2 _ (by omega), x6.2.2.2 _ (by omega), x5.2.2.2 _ (by omega), x4.2.2.2 _ (by omega), x3.2.2.2 _ (by omega), i2, x1.2.2.2 _ (by omega)]
  have w2 : ∀ k, k < 6 → hI g11 (y + 2) k = hI h (y + 2) (6 + k) := fun k hk => by
    rw [x11.2.2.2 _ (by omega), x10.2.2.2 _ (by omega), x9.2.2.2 _ (by omega), x8.2.2.2 _ (by omega), x7.2.2.2 _ (by omega), x6.2.2.2 _ (by omega), x5.2.2.2 _ (by omega), x4.2.2.2 _ (by omega), x3.2.2.2 _ (by omega), i2, r2 k hk]
  have l12 : hI g11 (y + 12) = hI h (y + 12) := keep _ (by omega) (by omega) (by omega) (by omega) (by omega) (by omega) (by omega) (by omega) (by omega) (by omega)
  have l13 : hI g11 (y + 13) = hI h (y + 13) := keep _ (by omega) (by omega) (by omega) (by omega) (by omega) (by omega) (by omega) (by omega) (by omega) (by omega)
  obtain ⟨h', b1, b2, b3⟩ := m_l117 hN M11 k0 k1 k2 k3 (by rw [l12]; exact e0) (by rw [l12]; exact e1) (by rw [l13]; exact e2) (by rw [l13]; exact e3)
  have sm : Sm h h' := ((((((((((x1.1.trans x2).trans x3.1).trans x4.1).trans x5.1).trans x6.1).trans x7.1).trans x8.1).trans x9.1).trans x10.1).trans x11.1).trans b2.1
  have ez : hz h' = hz h := by rw [b2.2.1, x11.2.1, x10.2.1, x9.2.1, x8.2.1, x7.2.1, x6.2.1, x5.2.1, x4.2.1, x3.2.1, z2, x1.2.1]
  have eJ : hJ h' = hJ g2 := by rw [b2.2.2.1, x11.2.2.1, x10.2.2.1, x9.2.2.1, x8.2.2.1, x7.2.2.1, x6.2.2.1, x5.2.2.1, x4.2.2.1, x3.2.2.1]
  have eI : ∀ z, z ≠ y + 12 → z ≠ y + 13 → hI h' z = hI g11 z := fun z p q => b2.2.2.2 z (by omega)
  refine ⟨h', ?_, ⟨sm, ez, fun z hz => ?_, fun z hz => ?_, fun k hk => by rw [eI _ (by omega) (by omega)]; exact w2 k hk, fun k hk => ?_, fun k hk => by rw [eI _ (by omega) (by omega)]; exact w4 k hk, fun k hk => by rw [eI _ (by omega) (by omega)]; exact w5 k hk, fun k hk => by rw [eI _ (by omega) (by omega)]; exact w6 k hk, fun k hk => by rw [eI _ (by omega) (by omega)]; exact w7 k hk, fun k hk => by rw [eI _ (by omega) (by omega)]; exact w8 k hk, fun k hk => by rw [eI _ (by omega) (by omega)]; exact w9 k hk, fun k hk => by rw [eI _ (by omega) (by omega)]; exact w10 k hk, fun k hk => by rw [eI _ (by omega) (by omega)]; exact w11 k hk, fun k hk => by rw [eI _ (by omega) (by omega)]; exact w14 k hk⟩, b3⟩
  · unfold f_X11_lays
    rw [ck_p M.1, mR_valley M, rq_s, a1, cl_s, a2]
    show f_X11_lays_11_b N (f_X11_lays_11 N 0) y 22 g2 = _
    unfold f_X11_lays_11_b
    rw [if_pos (by decide), ck_p M2.1, mR_fuelDark M2, rq_s, a3, cl_s, ck_p M3.1, mR_fuelSweet M3, rq_s, a4, cl_s, ck_p M4.1, mR_fuelLong M4, rq_s, a5, cl_s, ck_p M5.1, mR_houseAt M5, rq_s, a6, cl_s, ck_p M6.1, mR_stockTold M6, rq_s, a7, cl_s, ck_p M7.1, mR_signs M7, rq_s, a8, cl_s, ck_p M8.1, mR_sight M8, rq_s, a9, cl_s, ck_p M9.1, mR_wind M9, rq_s, a10, cl_s, ck_p M10.1, mR_codes M10, rq_s, a11, cl_s, b1]
  · rw [eI z (by omega) (by omega), keep z (by omega) (by omega) (by omega) (by omega) (by omega) (by omega) (by omega) (by omega) (by omega) (by omega)]
  · rw [eJ, j2 z hz, x1.2.2.1]
  · rw [eJ, n2 k (Nat.zero_le _) hk, x1.2.2.1]
end LAZ
