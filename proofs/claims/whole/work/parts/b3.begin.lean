/-! How reading begins: both sides. -/
section RBG
variable {N x y w a : Nat} {X : TX} {h h' : PH}
theorem Ex.vw {P : Nat → Prop} (g : Ex P h h') (hP : ∀ z, P z → (w ≤ z ∧ z < w + 18) ∧ z ≠ w + 11 ∧ z ≠ w + 14) : Vw w h h' := ⟨g.1, g.2.1, fun z hz => ⟨g.2.2.2 z (fun q => by have := hP z q; omega), by rw [g.2.2.1]⟩, fun z hz => by rw [g.2.2.2 z (fun q => by have := hP z q; omega)]⟩
theorem TB.vw (hw : x + 43 ≤ w) (g : Vw w h h') (q : TB X x h) : TB X x h' := by
  obtain ⟨p1, p2, p3, p4, p5, p6⟩ := q
  exact ⟨p1.sm g.1, by rw [g.2.1]; exact p2, by rw [g.1.2.2.2]; exact p3, p4, by rw [(g.2.2.1 (x + 1) (by omega)).1]; exact p5, fun k hk => by rw [(g.2.2.1 (x + 2) (by omega)).1]; exact p6 k hk⟩
theorem z_clear (hN : 2001 ≤ N) (V : VL h w) (l0 : hI h (w + 11) 0 = 1) (l1 : hI h (w + 14) 0 = 0) : ∃ h', f_X6_clear N w h = some ((), h') ∧ Vw w h h' ∧ DC h' w D0 := by
  obtain ⟨h1, a1, a2, a3⟩ := c_fill hN (by decide) (⟨vK_many V, vN_many V⟩ : IA h (w + 1) 5) 0
  have V1 := V.sm a2.1
  obtain ⟨h2, b1, b2, b3⟩ := c_fill hN (by decide) (⟨vK_stock V1, vN_stock V1⟩ : IA h1 (w + 7) 20) 0
  have V2 := V1.sm b2.1
  have V3 : VL (sI h2 w 7 0) w := V2.sm Sm.sI
  obtain ⟨h4, c1, c2, c3⟩ := c_fill hN (by decide) (⟨vK_gifts V3, vN_gifts V3⟩ : IA (sI h2 w 7 0) (w + 17) 1000) (-1)
  have V4 := V3.sm c2.1
  have V5 : VL (sI h4 w 11 0) w := V4.sm Sm.sI
  have V6 : VL (sI (sI h4 w 11 0) (w + 11) 3 0) w := V5.sm Sm.sI
  have V12 : hR (sI h4 w 11 0) w 12 = some (w + 11) := by unfold VL at V5; exact V5.2.1.2.2.2.2.2.2.2.2.2.2.1
  have V13 : hR (sI (sI h4 w 11 0) (w + 11) 3 0) w 13 = some (w + 14) := by unfold VL at V6; exact V6.2.1.2.2.2.2.2.2.2.2.2.2.2.1
  have V7 : VL (sI (sI (sI h4 w 11 0) (w + 11) 3 0) (w + 14) 3 0) w := V6.sm Sm.sI
  have g : Vw w h (sI (sI (sI h4 w 11 0) (w + 11) 3 0) (w + 14) 3 0) := (((((((a2.vw (fun z q => by omega)).trans (b2.vw (fun z q => by omega))).trans (Vw.I (by omega))).trans (c2.vw (fun z q => by omega))).trans (Vw.I (by omega))).trans (Vw.I (by omega))).trans (Vw.I (by omega)))
  have E : ∀ z, z ≠ w → z ≠ w + 11 → z ≠ w + 14 → hI (sI (sI (sI h4 w 11 0) (w + 11) 3 0) (w + 14) 3 0) z = hI h4 z := fun z q1 q2 q3 => by rw [hI_sI_ne q3, hI_sI_ne q2, hI_sI_ne q1]
  have e0 : hI (sI (sI (sI h4 w 11 0) (w + 11) 3 0) (w + 14) 3 0) w = va_up (hI h4 w) 11 0 := by rw [hI_sI_ne (by omega), hI_sI_ne (by omega), hI_sI_eq]
  have f0 : hI h4 w = va_up (hI h2 w) 7 0 := by rw [c2.2.2.2 w (by omega), hI_sI_eq]
  have e11 : hI (sI (sI (sI h4 w 11 0) (w + 11) 3 0) (w + 14) 3 0) (w + 11) = va_up (hI h (w + 11)) 3 0 := by
    rw [hI_sI_ne (by omega), hI_sI_eq, hI_sI_ne (by omega), c2.2.2.2 _ (by omega), hI_sI_ne (by omega), b2.2.2.2 _ (by omega), a2.2.2.2 _ (by omega)]
  have e14 : hI (sI (sI (sI h4 w 11 0) (w + 11) 3 0) (w + 14) 3 0) (w + 14) = va_up (hI h (w + 14)) 3 0 := by
    rw [hI_sI_eq, hI_sI_ne (by omega), hI_sI_ne (by omega), c2.2.2.2 _ (by omega), hI_sI_ne (by omega), b2.2.2.2 _ (by omega), a2.2.2.2 _ (by omega)]
  refine ⟨_, ?_, g, ⟨V7, fun k hk => ⟨Nat.zero_le _, ?_, fun i hi => absurd hi (Nat.not_lt_zero i)⟩⟩, by rw [e0, va_eq]; rfl, fun k hk => absurd hk (Nat.not_lt_zero k), fun k hk => absurd hk (Nat.not_lt_zero k), fun k hk => ?_, ?_, fun k hk => absurd hk (Nat.not_lt_zero k), fun k hk => absurd hk (Nat.not_lt_zero k), fun k hk => absurd hk (Nat.not_lt_zero k), ⟨⟨Nat.zero_le _, by rw [e11, va_eq]; rfl, fun k hk => absurd hk (Nat.not_lt_zero k)⟩, ⟨Nat.zero_le _, by rw [e14, va_eq]; rfl, fun k hk => absurd hk (Nat.not_lt_zero k)⟩, by rw [e11, va_ne (by decide)]; exact l0, by rw [e14, va_ne (by decide)]; exact l1⟩, fun k hk => ?_⟩
  · unfold f_X6_clear f_X1_clear
    rw [ck_p V.1, vR_many V, rq_s, a1, cl_s, ck_p V1.1, vR_stock V1, rq_s, b1, cl_s, ck_p V2.1, bd_e, ck_p V3.1, vR_gifts V3, rq_s, c1, cl_s, ck_p V4.1, bd_e, ck_p V5.1, V12, rq_s, ck_p V5.gives.1, ck_p V5.gives.1, bd_e, cl_s, ck_p V6.1, V13, rq_s, ck_p V6.soots.1, ck_p V6.soots.1, bd_e, cl_s]
  · rw [E _ (by omega) (by omega) (by omega), c2.2.2.2 _ (by omega), hI_sI_ne (by omega), b2.2.2.2 _ (by omega), a3 k hk]
    rfl
  · rw [E _ (by omega) (by omega) (by omega), c2.2.2.2 _ (by omega), hI_sI_ne (by omega), b3 k hk]
    rfl
  · rw [e0, va_ne (by decide), f0, va_eq]
    decide
  · rw [E _ (by omega) (by omega) (by omega), c3 k hk]
theorem z_readAll (hN : 2001 ≤ N) (hw : x + 43 ≤ w) (hl : w + 18 ≤ hz h) (V : VL h w) (l0 : hI h (w + 11) 0 = 1) (l1 : hI h (w + 14) 0 = 0) (rd : Rdr h a x w) (tb : TB X x h) : ∃ h', f_X7_readLines N a h = some ((), h') ∧ Kw x w h h' ∧ CZ X x h' (rdL X 1000 ((0, 0), D0)).1 ∧ ((rdL X 1000 ((0, 0), D0)).1.1 = 0 → DC h' w (rdL X 1000 ((0, 0), D0)).2 ∧ GD (rdL X 1000 ((0, 0), D0)).2 (rdL X 1000 ((0, 0), D0)).1) := by
  obtain ⟨h1, a1, a2, a3⟩ := z_clear hN V l0 l1
  have rd1 := rd.vw a2
  have t1 := tb.vw hw a2
  obtain ⟨h2, b1, b2, b3⟩ := z_open (N := N) (by omega) t1
  have hl1 : w + 18 ≤ hz h1 := by rw [a2.2.1]; exact hl
  have rd2 := rd1.shp b2.1
  obtain ⟨h', c1, c2, c3, c4⟩ := z_lines (N := N) (by omega) hw 1000 N 0 h2 ((0, 0), D0) rfl (by omega) (Nat.le_trans hl1 b2.1.2.1) rd2 b3 (fun _ => ⟨a3.kx b2 (fun z z1 z2 => by omega) hl1 hw, GD_0⟩)
  have c1 : f_X7_readLines_16 N N a 0 h2 = _ := c1
  refine ⟨h', ?_, (a2.kw.trans b2.kw).trans c2, c3, c4⟩
  unfold f_X7_readLines
  rw [ck_p rd.1, rd.2.2.1, rq_s, ck_p V.1, a1, cl_s, ck_p rd1.1, rd1.2.1, rq_s, ck_p t1.1.1, b1, cl_s, c1]
theorem m_r3 : ∀ n i h, MD h y → i ≤ 12 → 6 ≤ i → 12 < n + i → ∃ h', f_X11_readsAll_3 N n y (nI i) h = f_X11_readsAll_24 N N y 2 h' ∧ Pf y h h' ∧ (∀ z, z ≠ y + 2 → hI h' z = hI h z) ∧ hJ h' = hJ h ∧ (∀ k, i ≤ k → k < 12 → hI h' (y + 2) k = 0) ∧ (∀ k, k < i → hI h' (y + 2) k = hI h (y + 2) k)
  | 0, i, h, M, h1, h6, h2 => by omega
  | n + 1, i, h, M, h1, h6, h2 => by
    show ∃ h', f_X11_readsAll_3_b N (f_X11_readsAll_3 N n) y (nI i) h = _ ∧ _
    unfold f_X11_readsAll_3_b
    rw [ite_i (show (12 : Int32) ≤ nI i ↔ 12 ≤ i from nI_leI (a := 12) (by decide) (by omega))]
    by_cases c : 12 ≤ i
    · rw [if_pos c]
      exact ⟨h, rfl, Pf.rf, fun _ _ => rfl, rfl, fun k k1 k2 => by omega, fun _ _ => rfl⟩
    · have M1 : MD (sI h (y + 2) i 0) y := M.sm Sm.sI
      obtain ⟨h', a1, a2, a3, a4, a5, a6⟩ := m_r3 n (i + 1) (sI h (y + 2) i 0) M1 (by omega) (by omega) (by omega)
      rw [if_neg c, ck_p M.1, mR_valley M, rq_s, ck_p (mK_valley M), mN_valley M, ck_p (nI_ix (by omega) (by decide)), ix_nI (by omega), bd_e, nI_1, bd_e]
      refine ⟨h', a1, (Pf.I (by decide) (by decide) h6).trans a2, fun z hz => (a3 z hz).trans (hI_sI_ne hz), a4, fun k k1 k2 => ?_, fun k hk => ?_⟩
      · by_cases e : k = i
        · rw [e, a6 i (by omega), hI_sI_eq, va_eq]
        · exact a5 k (by omega) k2
      · rw [a6 k (by omega), hI_sI_eq, va_ne (by omega)]
/-- the reference reads all -/
theorem m_readsAll (hN : 2001 ≤ N) (M : MD h y) (ok : TXok X) (e1 : hI h y 1 = nI X.1) (et : ∀ k, k < X.1 → hI h (y + 1) k = nI (X.2 k)) : ∃ ha h', f_X11_readsAll N y h = some (yb (decide ((rdL X 1000 ((0, 0), D0)).1.1 = 0)), h') ∧ Pf y h ha ∧ Pf y (sI ha y 1 0) h' ∧ MRs X y h' (rdL X 1000 ((0, 0), D0)).1 ∧ ((rdL X 1000 ((0, 0), D0)).1.1 = 0 → DM h' y (rdL X 1000 ((0, 0), D0)).2 ∧ GD (rdL X 1000 ((0, 0), D0)).2 (rdL X 1000 ((0, 0), D0)).1) := by
  obtain ⟨h1, a1, a2, a3, a4, a5, -⟩ := m_r3 (N := N) N 6 h M (by decide) (by decide) (by omega)
  have M1 := M.sm a2.1
  have M2 : MD (sI h1 (y + 12) 2 1000) y := M1.sm Sm.sI
  have M3 : MD (sI (sI h1 (y + 12) 2 1000) (y + 13) 2 1000) y := M2.sm Sm.sI
  have M4 : MD (sI (sI (sI h1 (y + 12) 2 1000) (y + 13) 2 1000) (y + 12) 3 1000) y := M3.sm Sm.sI
  obtain ⟨g, gd⟩ : ∃ g, g = sI (sI (sI (sI h1 (y + 12) 2 1000) (y + 13) 2 1000) (y + 12) 3 1000) (y + 13) 3 1000 := ⟨_, rfl⟩
  have Mg : MD g y := by rw [gd]; exact M4.sm Sm.sI
  have pg : Pf y h g := by
    rw [gd]
    exact (((a2.trans (Pf.I (by decide) (by decide) (by decide))).trans (Pf.I (by decide) (by decide) (by decide))).trans (Pf.I (by decide) (by decide) (by decide))).trans (Pf.I (by decide) (by decide) (by decide))
  have g12 : hI g (y + 12) = va_up (va_up (hI h1 (y + 12)) 2 1000) 3 1000 := by rw [gd, hI_sI_ne (by omega), hI_sI_eq, hI_sI_ne (by omega), hI_sI_eq]
  have g13 : hI g (y + 13) = va_up (va_up (hI h1 (y + 13)) 2 1000) 3 1000 := by rw [gd, hI_sI_eq, hI_sI_ne (by omega), hI_sI_eq, hI_sI_ne (by omega)]
  have g2 : hI g (y + 2) = hI h1 (y + 2) := by rw [gd, hI_sI_ne (by omega), hI_sI_ne (by omega), hI_sI_ne (by omega), hI_sI_ne (by omega)]
  have gt : hI g (y + 1) = hI h (y + 1) := by rw [gd, hI_sI_ne (by omega), hI_sI_ne (by omega), hI_sI_ne (by omega), hI_sI_ne (by omega), a3 _ (by omega)]
  have gy : hI g y 1 = nI X.1 := (pg.2.2.2.2 1 (Or.inl rfl)).trans e1
  have hN3 : N = (N - 3) + 1 + 1 + 1 := by omega
  have r1 : f_X11_readsAll_24 N N y 2 h1 = f_X11_readsAll_24_b N (f_X11_readsAll_24 N (N - 3)) y 4 g := by
    rw [show f_X11_readsAll_24 N N = f_X11_readsAll_24 N ((N - 3) + 1 + 1 + 1) from congrArg _ hN3]
    show f_X11_readsAll_24_b N (f_X11_readsAll_24 N ((N - 3) + 1 + 1)) y 2 h1 = _
    unfold f_X11_readsAll_24_b
    rw [if_neg (by decide), ck_p M1.1, mR_lineFrom M1, rq_s, ck_p (mK_lineFrom M1), mN_lineFrom M1, ck_p (by decide), show ix (2 : Int32) = 2 by decide, bd_e, ck_p M2.1, mR_lineTo M2, rq_s, ck_p (mK_lineTo M2), mN_lineTo M2, ck_p (by decide), bd_e, show (2 : Int32) + 1 = 3 by decide, bd_e]
    show f_X11_readsAll_24_b N (f_X11_readsAll_24 N ((N - 3) + 1)) y 3 _ = _
    unfold f_X11_readsAll_24_b
    rw [if_neg (by decide), ck_p M3.1, mR_lineFrom M3, rq_s, ck_p (mK_lineFrom M3), mN_lineFrom M3, ck_p (by decide), show ix (3 : Int32) = 3 by decide, bd_e, ck_p M4.1, mR_lineTo M4, rq_s, ck_p (mK_lineTo M4), mN_lineTo M4, ck_p (by decide), bd_e, show (3 : Int32) + 1 = 4 by decide, bd_e, ← gd]
    rfl
  have mA : MD (sI g y 23 1000) y := Mg.sm Sm.sI
  have mB : MD (sI (sI g y 23 1000) y 3 (nI X.1)) y := mA.sm Sm.sI
  have mC : MD (sI (sI (sI g y 23 1000) y 3 (nI X.1)) y 1 0) y := mB.sm Sm.sI
  have mE : MD (sI (sI (sI (sI g y 23 1000) y 3 (nI X.1)) y 1 0) y 4 0) y := mC.sm Sm.sI
  have fE : hI (sI (sI (sI (sI g y 23 1000) y 3 (nI X.1)) y 1 0) y 4 0) y = va_up (va_up (va_up (va_up (hI g y) 23 1000) 3 (nI X.1)) 1 0) 4 0 := by rw [hI_sI_eq, hI_sI_eq, hI_sI_eq, hI_sI_eq]
  have fo : ∀ z, z ≠ y → hI (sI (sI (sI (sI g y 23 1000) y 3 (nI X.1)) y 1 0) y 4 0) z = hI g z := fun z hz => by rw [hI_sI_ne hz, hI_sI_ne hz, hI_sI_ne hz, hI_sI_ne hz]
  have rb : RB X y (sI (sI (sI (sI g y 23 1000) y 3 (nI X.1)) y 1 0) y 4 0) := ⟨mE, ok, by rw [fE, va_ne (by decide), va_ne (by decide), va_eq], fun k hk => by rw [fo _ (by omega), gt]; exact et k hk⟩
  obtain ⟨h2, b1, b2, b3, b4⟩ := m_nextToken (N := N) (by omega) (Nat.zero_le _) rb (by rw [fE, va_eq]; rfl)
  have rk := Rk.xy b2 b3
  have x2 : ∀ z, z ≠ y → hI h2 z = hI g z := fun z hz => (b2.2.2 z hz).1.trans (fo z hz)
  have dm : DM h2 y D0 := by
    refine ⟨⟨b4.1.1, fun k hk => ⟨Nat.zero_le _, ?_, fun i hi => absurd hi (Nat.not_lt_zero i)⟩⟩, ?_, fun k hk => absurd hk (Nat.not_lt_zero k), fun k hk => absurd hk (Nat.not_lt_zero k), fun i f hi => absurd hi (Nat.not_lt_zero i), fun k hk => absurd hk (Nat.not_lt_zero k), fun k hk => absurd hk (Nat.not_lt_zero k), fun k hk => absurd hk (Nat.not_lt_zero k), 1000, by decide, ?_, rfl, ⟨1000, by decide, by decide, ?_, ?_, fun k hk => absurd hk (Nat.not_lt_zero k)⟩, ⟨1000, by decide, by decide, ?_, ?_, fun k hk => absurd hk (Nat.not_lt_zero k)⟩⟩
    · rw [x2 _ (by omega), g2, a5 _ (by omega) (by omega)]; rfl
    · rw [x2 _ (by omega), g2, a5 11 (by decide) (by decide)]; rfl
    · rw [rk.2.1 23 (by omega), fE, va_ne (by decide), va_ne (by decide), va_ne (by decide), va_eq]; rfl
    · rw [x2 _ (by omega), g12, va_ne (by decide), va_eq]; rfl
    · rw [x2 _ (by omega), g13, va_ne (by decide), va_eq]; rfl
    · rw [x2 _ (by omega), g12, va_eq]; rfl
    · rw [x2 _ (by omega), g13, va_eq]; rfl
  have l1 := ok.1
  obtain ⟨h', c1, c2, c3, c4⟩ := m_lines (N := N) (y := y) (X := X) (by omega) 1000 N h2 ((0, 0), D0) (by show X.1 ≤ 1000 + 0; omega) (by omega) rfl b4 dm GD_0
  refine ⟨sI (sI g y 23 1000) y 3 (nI X.1), h', ?_, (pg.trans (Pf.Y (by decide))).trans (Pf.Y (by decide)), ((Pf.Y (by decide)).trans rk.rj.pf).trans c2, c3, c4⟩
  unfold f_X11_readsAll
  have a1 : f_X11_readsAll_3 N N y 6 h = _ := a1
  rw [a1, r1]
  unfold f_X11_readsAll_24_b f_X11_begins
  rw [if_pos (by decide), ck_p Mg.1, bd_e, ck_p mA.1, ck_p mA.1, show hI (sI g y 23 1000) y 1 = nI X.1 by rw [hI_sI_eq, va_ne (by decide)]; exact gy, bd_e, ck_p mB.1, bd_e, ck_p mC.1, bd_e, ck_p mE.1, b1, cl_s, cl_s]
  exact c1
end RBG
