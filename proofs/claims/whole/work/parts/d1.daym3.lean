/-! day: the reference reads all its lines, all together. -/
section DYO
variable {N y u p : Nat} {X : TX} {cnt : Nat → Nat} {nm : Nat → Nat → Nat} {s : ZS} {h h' : PH} {D : AD} {A : AV}
theorem m_dtail (hB : 2000 ≤ N) {c0 c1 c2 c3 c4 : Nat} (n : D.1 < 40) {S : ZS} (hS : S.1 = 0) {h1 h2 : PH} (r : RD h y 5 D) (g1 : Dq y (fun z => y + 28 ≤ z ∧ z ≤ y + 32) (200 + D.1) h h1) (v0 : hI h1 (y + 28) (200 + D.1) = nI c0) (g2 : Dq y (fun z => y + 29 ≤ z ∧ z ≤ y + 32) (200 + D.1) h1 h2) (z : RZ X y h2 S.2) (w1 : c0 = 0 → hI h2 (y + 29) (200 + D.1) = nI c1 ∧ hI h2 (y + 30) (200 + D.1) = nI c3) (w2 : c0 = 1 → hI h2 (y + 29) (200 + D.1) = nI c1 ∧ hI h2 (y + 30) (200 + D.1) = nI c2 ∧ hI h2 (y + 31) (200 + D.1) = nI c3 ∧ hI h2 (y + 32) (200 + D.1) = nI c4) : ∃ h', f_X11_readsLine_120 N y h2 = some (yb (decide ((xSn X 59 S).1 = 0)), h') ∧ Dk y h h' ∧ MRs X y h' (xSn X 59 S) ∧ ((xSn X 59 S).1 = 0 → RD h' y 5 (dyP D c0 c1 c2 c3 c4)) := by
  have e27 : hI h2 (y + 27) 5 = nI D.1 := by
    rw [g2.2.2.2.1 (y + 27) 5 (by omega) (Or.inl (by omega)), g1.2.2.2.1 (y + 27) 5 (by omega) (Or.inl (by omega))]
    exact r.1
  obtain ⟨h', e1, e2, e3, e4, e5⟩ := m_120 (N := N) hB n z e27
  have es := ZS.e hS
  rw [← es] at e1 e3
  refine ⟨h', e1, ((g1.dk (by omega) (fun z hz => hz)).trans (g2.dk (by omega) (fun z hz => ⟨by omega, hz.2⟩))).trans e2.dk5, e3, fun _ => RD.add n r e4 (fun j k j1 j2 k1 k2 => ?_) ?_ (fun w => ?_) (fun w => ?_)⟩
  · rw [e5 (y + j) (by omega) (by omega), g2.2.2.2.1 (y + j) k (by omega) (Or.inr (by omega)), g1.2.2.2.1 (y + j) k (by omega) (Or.inr (by omega))]
  · rw [e5 (y + 28) (by omega) (by omega), g2.2.2.2.1 (y + 28) _ (by omega) (Or.inl (by omega))]
    exact v0
  · rw [e5 (y + 29) (by omega) (by omega), e5 (y + 30) (by omega) (by omega)]
    exact w1 w
  · rw [e5 (y + 29) (by omega) (by omega), e5 (y + 30) (by omega) (by omega), e5 (y + 31) (by omega) (by omega), e5 (y + 32) (by omega) (by omega)]
    exact w2 w
theorem dyZ_y {k n : Nat} (k3 : k ≠ 3) (n4 : n < 40) : stp X (dyZ X k n (0, p)) = (0, xnx X p) := by
  unfold dyZ
  rw [if_neg k3, if_pos n4, stp_0 rfl]
theorem dyZ_5 {k n : Nat} (k3 : k ≠ 3) (n4 : ¬ n < 40) : stp X (dyZ X k n (0, p)) = (5 + 16 * xbg X p, p) := by
  unfold dyZ
  rw [if_neg k3, if_neg n4, flt_0 rfl, stp_z (show (5 + 16 * xbg X p, p).1 ≠ 0 by show 5 + 16 * xbg X p ≠ 0; omega)]
theorem dyZ_1 {n : Nat} : stp X (dyZ X 3 n (0, p)) = (1 + 16 * xbg X p, p) := by
  unfold dyZ
  rw [if_pos rfl, flt_0 rfl, stp_z (show (1 + 16 * xbg X p, p).1 ≠ 0 by show 1 + 16 * xbg X p ≠ 0; omega)]
theorem m_dline (hB : 2000 ≤ N) (hn : D.1 ≤ 40) (z : RZ X y h p) (q : NmM h y 0 cnt nm) (r : RD h y 5 D) : ∃ h', f_X11_readsLine N y h = some (yb (decide ((dyS X cnt nm D.1 (0, p)).1 = 0)), h') ∧ Dk y h h' ∧ MRs X y h' (dyS X cnt nm D.1 (0, p)) ∧ ((dyS X cnt nm D.1 (0, p)).1 = 0 → RD h' y 5 (dyD X cnt nm D (0, p))) := by
  have M := z.1.1
  have f5 : (5 + 16 * xbg X p, p).1 ≠ 0 := by show 5 + 16 * xbg X p ≠ 0; omega
  have f1 : (1 + 16 * xbg X p, p).1 ≠ 0 := by show 1 + 16 * xbg X p ≠ 0; omega
  unfold f_X11_readsLine
  rw [ck_p M.1, m_isWord (i := 16) (by decide) kL16 z, cl_s, ite_i yb0]
  by_cases c0 : sWd X (0, p) 16 = true
  · have ek : dyK X (0, p) = 0 := by unfold dyK; rw [if_pos c0]
    obtain ⟨t1, t2⟩ := dy_0 (X := X) (cnt := cnt) (nm := nm) (s := (0, p)) (D := D) ek (by decide) (by decide)
    rw [if_neg (by rw [c0]; decide), t1, t2]
    by_cases n : D.1 < 40
    rotate_left
    · obtain ⟨h', a1, a2, a3⟩ := m_43f (N := N) (k := 0) hB (by decide) z r (by omega)
      have a1 : f_X11_readsLine_43 N 0 y h = _ := a1
      rw [dyZ_5 (by decide) n, dyT_z f5, dyT_z f5, xSn_z f5, decide_eq_false f5, a1]
      exact ⟨h', rfl, a2.dk, MRs.f (by decide) a3, fun w => absurd w f5⟩
    obtain ⟨h1, a1, a2, a3, a4⟩ := m_43 (N := N) (k := 0) hB (by decide) z r n
    have a1 : f_X11_readsLine_43 N 0 y h = _ := a1
    obtain ⟨h2, b1, b2, b3, b4⟩ := m_rb (N := N) (u := 200 + D.1) (cnt := cnt) (nm := nm) hB (by omega) a2 (q.dk (a3.dk (by omega) (fun z hz => hz)))
    rw [dyZ_y (by decide) n, a1, if_pos (show nI 0 = 0 from rfl), b1, cl_s, ite_i yb0]
    generalize dyV X cnt nm 2 (0, xnx X p) = va at *
    generalize dyV X cnt nm 0 (dyT X cnt nm 2 (0, xnx X p)) = vb at *
    generalize dyT X cnt nm 0 (dyT X cnt nm 2 (0, xnx X p)) = S at *
    by_cases c : S.1 = 0
    rotate_left
    · rw [if_pos (decide_eq_false c), xSn_z c, decide_eq_false c]
      exact ⟨h2, rfl, (a3.dk (by omega) (fun z hz => hz)).trans (b2.dk (by omega) (fun z hz => ⟨by omega, hz.2⟩)), b3, fun w => absurd w c⟩
    obtain ⟨h', e1, e2, e3, e4⟩ := m_dtail (N := N) (c0 := 0) (c1 := va) (c2 := 0) (c3 := vb) (c4 := 0) hB n c r a3 a4 b2 (b3.1 c) (fun _ => b4 c) (fun w => absurd w (by decide))
    unfold f_X11_readsLine_105
    rw [if_neg (by rw [decide_eq_true c]; decide), if_neg (by decide)]
    exact ⟨h', e1, e2, e3, e4⟩
  rw [if_pos (sF_of c0), ck_p M.1, m_isWord (i := 17) (by decide) kL17 z, cl_s, ite_i yb0]
  by_cases c1 : sWd X (0, p) 17 = true
  · have ek : dyK X (0, p) = 1 := by unfold dyK; rw [if_neg c0, if_pos c1]
    obtain ⟨t1, t2⟩ := dy_1 (X := X) (cnt := cnt) (nm := nm) (s := (0, p)) (D := D) ek
    rw [if_neg (by rw [c1]; decide), t1, t2]
    by_cases n : D.1 < 40
    rotate_left
    · obtain ⟨h', a1, a2, a3⟩ := m_43f (N := N) (k := 1) hB (by decide) z r (by omega)
      have a1 : f_X11_readsLine_43 N 1 y h = _ := a1
      have eA : dyA X cnt nm (5 + 16 * xbg X p, p) = (5 + 16 * xbg X p, p) := by
        unfold dyA
        rw [dyT_z f5, dyI_z f5]
      rw [dyZ_5 (by decide) n, eA, dyT_z f5, xNu_z f5, xSn_z f5, decide_eq_false f5, a1]
      exact ⟨h', rfl, a2.dk, MRs.f (by decide) a3, fun w => absurd w f5⟩
    obtain ⟨h1, a1, a2, a3, a4⟩ := m_43 (N := N) (k := 1) hB (by decide) z r n
    have a1 : f_X11_readsLine_43 N 1 y h = _ := a1
    obtain ⟨h2, b1, b2, b3, b4⟩ := m_rl (N := N) (u := 200 + D.1) (cnt := cnt) (nm := nm) hB (by omega) a2 (q.dk (a3.dk (by omega) (fun z hz => hz)))
    rw [dyZ_y (by decide) n, a1, if_neg (by decide)]
    unfold f_X11_readsLine_105
    rw [if_pos (show nI 1 = 1 from rfl), ck_p a2.1.1.1, b1, cl_s, ite_i yb0]
    generalize dyV X cnt nm 2 (0, xnx X p) = va at *
    generalize dyV X cnt nm 2 (dyT X cnt nm 2 (0, xnx X p)) = vb at *
    generalize dyV X cnt nm 0 (dyA X cnt nm (0, xnx X p)) = vc at *
    generalize xnv X (dyT X cnt nm 0 (dyA X cnt nm (0, xnx X p))).2 = vd at *
    generalize xNu X 1 99 (dyT X cnt nm 0 (dyA X cnt nm (0, xnx X p))) = S at *
    by_cases c : S.1 = 0
    rotate_left
    · rw [if_pos (decide_eq_false c), xSn_z c, decide_eq_false c]
      exact ⟨h2, rfl, (a3.dk (by omega) (fun z hz => hz)).trans (b2.dk (by omega) (fun z hz => ⟨by omega, hz.2⟩)), b3, fun w => absurd w c⟩
    obtain ⟨h', e1, e2, e3, e4⟩ := m_dtail (N := N) (c0 := 1) (c1 := va) (c2 := vb) (c3 := vc) (c4 := vd) hB n c r a3 a4 b2 (b3.1 c) (fun w => absurd w (by decide)) (fun _ => b4 c)
    rw [if_neg (by rw [decide_eq_true c]; decide)]
    exact ⟨h', e1, e2, e3, e4⟩
  rw [if_pos (sF_of c1), ck_p M.1, m_isWord (i := 18) (by decide) kL18 z, cl_s, ite_i yb0]
  by_cases c2 : sWd X (0, p) 18 = true
  · have ek : dyK X (0, p) = 2 := by unfold dyK; rw [if_neg c0, if_neg c1, if_pos c2]
    obtain ⟨t1, t2⟩ := dy_2 (X := X) (cnt := cnt) (nm := nm) (s := (0, p)) (D := D) ek (n := D.1)
    rw [if_neg (by rw [c2]; decide), t1, t2]
    by_cases n : D.1 < 40
    rotate_left
    · obtain ⟨h', a1, a2, a3⟩ := m_43f (N := N) (k := 2) hB (by decide) z r (by omega)
      have a1 : f_X11_readsLine_43 N 2 y h = _ := a1
      rw [dyZ_5 (by decide) n, xSn_z f5, decide_eq_false f5, a1]
      exact ⟨h', rfl, a2.dk, MRs.f (by decide) a3, fun w => absurd w f5⟩
    obtain ⟨h1, a1, a2, a3, a4⟩ := m_43 (N := N) (k := 2) hB (by decide) z r n
    have a1 : f_X11_readsLine_43 N 2 y h = _ := a1
    obtain ⟨h', e1, e2, e3, e4⟩ := m_dtail (N := N) (S := (0, xnx X p)) (c0 := 2) (c1 := 0) (c2 := 0) (c3 := 0) (c4 := 0) hB n rfl r a3 a4 (Dq.rk Rk.rf) a2 (fun w => absurd w (by decide)) (fun w => absurd w (by decide))
    rw [dyZ_y (by decide) n, a1, if_neg (by decide)]
    unfold f_X11_readsLine_105
    rw [if_neg (by decide)]
    exact ⟨h', e1, e2, e3, e4⟩
  rw [if_pos (sF_of c2)]
  have ek : dyK X (0, p) = 3 := by unfold dyK; rw [if_neg c0, if_neg c1, if_neg c2]
  obtain ⟨t1, t2⟩ := dy_0 (X := X) (cnt := cnt) (nm := nm) (s := (0, p)) (D := D) ek (by decide) (by decide)
  obtain ⟨h', a1, a2, a3⟩ := m_fails (N := N) (k := 1) z
  have a1 : f_X11_fails N y 1 h = _ := a1
  unfold f_X11_readsLine_43
  rw [if_neg (by decide), ck_p M.1, a1, cl_s, ck_p (Or.inl rfl), t1, dyZ_1, dyT_z f1, dyT_z f1, xSn_z f1, decide_eq_false f1]
  exact ⟨h', rfl, a2.dk, MRs.f (by decide) a3, fun w => absurd w f1⟩
/-- a day that is read is a day -/
theorem k_day (e : (dyS X (aC A) nm D.1 s).1 = 0) (w : WD A D) : D.1 < 40 ∧ WD A (dyD X (aC A) nm D s) := by
  by_cases k2 : dyK X s = 2
  · obtain ⟨t1, t2⟩ := dy_2 (X := X) (cnt := aC A) (nm := nm) (D := D) k2 (n := D.1)
    rw [t1] at e
    have n := (dyZ_0 (stp_n.mp (xSn_0 e))).2
    rw [t2]
    exact ⟨n, WD.add n w (Nat.le_refl 2) (fun v => absurd v (by decide)) (fun v => absurd v (by decide))⟩
  by_cases k1 : dyK X s = 1
  · obtain ⟨t1, t2⟩ := dy_1 (X := X) (cnt := aC A) (nm := nm) (D := D) k1
    rw [t1] at e
    have e1 := xSn_0 e
    have e2 := xNu_0 e1
    have e3 := dyT_0 e2
    have e4 := dyI_0 (show (dyI X (aC A) nm (dyV X (aC A) nm 2 (stp X (dyZ X 1 D.1 s))) (dyT X (aC A) nm 2 (stp X (dyZ X 1 D.1 s)))).1 = 0 from e3.1)
    have e5 := dyT_0 e4.1
    have n := (dyZ_0 (stp_n.mp e5.1)).2
    rw [t2]
    exact ⟨n, WD.add n w (by decide) (fun _ => ⟨e5.2, e3.2⟩) (fun _ => ⟨e4.2.1, e4.2.2, (xNu_s e1).2.1, (xNu_s e1).2.2⟩)⟩
  obtain ⟨t1, t2⟩ := dy_0 (X := X) (cnt := aC A) (nm := nm) (s := s) (D := D) rfl k1 k2
  rw [t1] at e
  have e2 := dyT_0 (xSn_0 e)
  have e3 := dyT_0 e2.1
  have n := (dyZ_0 (stp_n.mp e3.1)).2
  rw [t2]
  exact ⟨n, WD.add n w (by decide) (fun _ => ⟨e3.2, e2.2⟩) (fun v => absurd v (by decide))⟩
theorem m_dlines (hB : 2000 ≤ N) : ∀ n m h (t : ZS × AD), t.2.1 + n = 41 → n < m → t.1.1 = 0 → RZ X y h t.1.2 → NmM h y 0 (aC A) nm → RD h y 5 t.2 → WD A t.2 → ∃ h', f_X11_day_16 N m y h = (if (rdD X (aC A) nm n t).1.1 = 0 then cl (f_X11_laysLines N y 5 0 h') (fun _ h4 => some (0, h4)) else some (nI (rdD X (aC A) nm n t).1.1, h')) ∧ Dk y h h' ∧ ((rdD X (aC A) nm n t).1.1 = 0 → RD h' y 5 (rdD X (aC A) nm n t).2 ∧ WD A (rdD X (aC A) nm n t).2)
  | n, 0, h, t, e1, e2, hs, z, q, r, w => by omega
  | n, m + 1, h, t, e1, e2, hs, z, q, r, w => by
    have M := z.1.1
    by_cases c : xty X t.1.2 = 0
    · rw [rdD_z (fun v => v.2 c)]
      refine ⟨h, ?_, Dk.rf, fun _ => ⟨r, w⟩⟩
      rw [if_pos hs]
      show f_X11_day_16_b N (f_X11_day_16 N m) y h = _
      unfold f_X11_day_16_b
      rw [ck_p M.1, z.2.2.2.2.1, c, if_pos (show nI 0 = 0 from rfl)]
    match n, e1, e2 with
    | 0, e1, e2 => exact absurd w.1 (by omega)
    | n + 1, e1, e2 =>
      obtain ⟨h1, a1, a2, a3, a4⟩ := m_dline (N := N) hB w.1 z q r
      have es := ZS.e hs
      rw [← es] at a1 a3 a4
      have er : rdD X (aC A) nm (n + 1) t = rdD X (aC A) nm n (dyS X (aC A) nm t.2.1 t.1, dyD X (aC A) nm t.2 t.1) := by
        show (if t.1.1 = 0 ∧ xty X t.1.2 ≠ 0 then rdD X (aC A) nm n (dyS X (aC A) nm t.2.1 t.1, dyD X (aC A) nm t.2 t.1) else t) = _
        rw [if_pos ⟨hs, c⟩]
      have tl := xty_le (X := X) (p := t.1.2)
      rw [er]
      show ∃ h', f_X11_day_16_b N (f_X11_day_16 N m) y h = _ ∧ _
      unfold f_X11_day_16_b
      rw [ck_p M.1, z.2.2.2.2.1, if_neg (show ¬ nI (xty X t.1.2) = 0 from fun v => c ((nI_eq (b := 0) (by omega) (by decide)).mp v)), a1, cl_s, ite_i yb0]
      by_cases d : (dyS X (aC A) nm t.2.1 t.1).1 = 0
      · obtain ⟨h', b1, b2, b3⟩ := m_dlines hB n m h1 (dyS X (aC A) nm t.2.1 t.1, dyD X (aC A) nm t.2 t.1) (by
          show (dyD X (aC A) nm t.2 t.1).1 + n = 41
          rw [dyD_n]
          omega) (by omega) d (a3.1 d) (q.dk a2) (a4 d) (k_day d w).2
        rw [if_neg (by rw [decide_eq_true d]; decide)]
        exact ⟨h', b1, a2.trans b2, b3⟩
      · rw [rdD_z (fun v => d v.1), if_pos (decide_eq_false d), ck_p (by rw [a2.1.1]; exact M.1), a3.2 d]
        exact ⟨h1, (if_neg d).symm, a2, fun v => absurd v d⟩
theorem m_day (hB : 2000 ≤ N) (M : MD h y) (ok : TXok X) (e1 : hI h y 1 = nI X.1) (et : ∀ k, k < X.1 → hI h (y + 1) k = nI (X.2 k)) (q : NmM h y 0 (aC A) nm) : ∃ ha h', f_X11_day N y h = (if (rdD X (aC A) nm 41 ((0, 0), DA0)).1.1 = 0 then cl (f_X11_laysLines N y 5 0 h') (fun _ h4 => some (0, h4)) else some (nI (rdD X (aC A) nm 41 ((0, 0), DA0)).1.1, h')) ∧ Dk y h ha ∧ Dk y (sI ha y 1 0) h' ∧ ((rdD X (aC A) nm 41 ((0, 0), DA0)).1.1 = 0 → RD h' y 5 (rdD X (aC A) nm 41 ((0, 0), DA0)).2 ∧ WD A (rdD X (aC A) nm 41 ((0, 0), DA0)).2) := by
  have YI : ∀ (g : PH) (k : Nat) (v : Int32), (k ≠ 1 ∧ k ≠ 54) → Dk y g (sI g y k v) := fun g k v hk => ⟨Sm.sI, rfl, fun _ _ => rfl, fun z j hz _ => by rw [hI_sI_ne hz], fun j hj => by rw [hI_sI_eq, va_ne (by omega)]⟩
  have M0 : MD (sI h y 0 0) y := M.sm Sm.sI
  obtain ⟨g, gd⟩ : ∃ g, g = sI (sI h y 0 0) (y + 27) 5 0 := ⟨_, rfl⟩
  have k1 : Dk y h g := by rw [gd]; exact (YI h 0 0 (by decide)).trans (Dq.I (P := fun z => z = y + 27) rfl (by omega)).dk5
  have Mg := M.sm k1.1
  have r0 : RD g y 5 DA0 := ⟨by rw [gd, hI_sI_eq, va_eq]; rfl, fun k hk => absurd hk (Nat.not_lt_zero k)⟩
  have gy : hI g y 1 = nI X.1 := (k1.2.2.2.2 1 (Or.inl rfl)).trans e1
  have gt : hI g (y + 1) = hI h (y + 1) := by rw [gd, hI_sI_ne (by omega), hI_sI_ne (by omega)]
  have mB : MD (sI g y 3 (nI X.1)) y := Mg.sm Sm.sI
  have mC : MD (sI (sI g y 3 (nI X.1)) y 1 0) y := mB.sm Sm.sI
  have mE : MD (sI (sI (sI g y 3 (nI X.1)) y 1 0) y 4 0) y := mC.sm Sm.sI
  have fE : hI (sI (sI (sI g y 3 (nI X.1)) y 1 0) y 4 0) y = va_up (va_up (va_up (hI g y) 3 (nI X.1)) 1 0) 4 0 := by rw [hI_sI_eq, hI_sI_eq, hI_sI_eq]
  have fo : ∀ z, z ≠ y → hI (sI (sI (sI g y 3 (nI X.1)) y 1 0) y 4 0) z = hI g z := fun z hz => by rw [hI_sI_ne hz, hI_sI_ne hz, hI_sI_ne hz]
  have rb : RB X y (sI (sI (sI g y 3 (nI X.1)) y 1 0) y 4 0) := ⟨mE, ok, by rw [fE, va_ne (by decide), va_ne (by decide), va_eq], fun k hk => by rw [fo _ (by omega), gt]; exact et k hk⟩
  obtain ⟨h2, b1, b2, b3, b4⟩ := m_nextToken (N := N) (by omega) (Nat.zero_le _) rb (by rw [fE, va_eq]; rfl)
  have rk := (Rk.xy b2 b3).dk
  have k2 : Dk y g (sI g y 3 (nI X.1)) := YI _ _ _ (by decide)
  have k3 : Dk y (sI (sI g y 3 (nI X.1)) y 1 0) h2 := (YI _ _ _ (by decide)).trans rk
  have r2 : RD h2 y 5 DA0 := ⟨by rw [(b2.2.2 (y + 27) (by omega)).1, fo _ (by omega)]; exact r0.1, fun k hk => absurd hk (Nat.not_lt_zero k)⟩
  have q2 : NmM h2 y 0 (aC A) nm := by
    have qg := q.dk k1
    exact ⟨b4.1.1, fun j hj => ⟨(qg.2 j hj).1, by rw [(b2.2.2 (y + 2) (by omega)).1, fo _ (by omega)]; exact (qg.2 j hj).2.1, fun i hi => ⟨((qg.2 j hj).2.2 i hi).1, by rw [(b2.2.2 (y + 3) (by omega)).2]; exact ((qg.2 j hj).2.2 i hi).2⟩⟩⟩
  have w0 : WD A DA0 := ⟨Nat.zero_le _, fun k hk => absurd hk (Nat.not_lt_zero k)⟩
  obtain ⟨h', c1, c2, c3⟩ := m_dlines (N := N) hB 41 N h2 ((0, 0), DA0) rfl (by omega) rfl b4 q2 r2 w0
  refine ⟨sI g y 3 (nI X.1), h', ?_, k1.trans k2, k3.trans c2, c3⟩
  unfold f_X11_day f_X11_begins
  rw [ck_p M.1, bd_e, ck_p M0.1, mR_lines M0, rq_s, ck_p (mK_lines M0), mN_lines M0, ck_p (by decide), bd_e, ← gd, ck_p Mg.1, ck_p Mg.1, gy, bd_e, ck_p mB.1, bd_e, ck_p mC.1, bd_e, ck_p mE.1, b1, cl_s, cl_s]
  exact c1
end DYO
