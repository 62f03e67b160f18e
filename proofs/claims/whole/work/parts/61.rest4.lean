/-! The duty of rests. -/
abbrev NBc (A : AV) (S : AS) (a b : Int32) : Prop := (¬ a < 0 ∧ ¬ nI (aC A 2) ≤ a) ∧ (¬ b < 0 ∧ ¬ nI (aC A 2) ≤ b) ∧ ¬ a = b ∧ aF A (ix a) = aF A (ix b) ∧ tL S (ix a) = 0 ∧ tL S (ix b) = 0
abbrev RCc (A : AV) (S : AS) (a b s t z w : Int32) : Prop := NBc A S a b ∧ (¬ s < 0 ∧ ¬ nI (aC A 3) ≤ s) ∧ (¬ t < 0 ∧ ¬ nI (aC A 3) ≤ t) ∧ (¬ z < 0 ∧ ¬ (99 : Int32) < z) ∧ ¬ w < (-1 : Int32)
section RH
variable {N x y o J : Nat} {A : AV} {S : AS}
theorem c_areN {v w' : Nat} {h : PH} (ob : OB h x v w') (pv : VA h v A) (cS : CS h (x + 3 + 1) S) (hT : WS A J S) (a b : Int32) : f_X10_areNeighbours N x a b h = some (yes (NBc A S a b), h) := by
  have hWV := pv.2.2.1
  have h3 := hWV.1.2.1
  have h4 := hWV.1.2.2.1
  unfold f_X10_areNeighbours
  rw [ck_p ob.k9, ob.R8, rq_s, ck_p pv.1.1, c_has2 pv, cl_s]
  by_cases c1 : ¬ a < 0 ∧ ¬ nI (aC A 2) ≤ a
  rotate_left
  · rw [yesF c1, if_pos rfl, yesF (fun k => c1 k.1)]
  rw [yesT c1, if_neg one0, ck_p ob.k9, ob.R8, rq_s, ck_p pv.1.1, c_has2 pv, cl_s]
  by_cases c2 : ¬ b < 0 ∧ ¬ nI (aC A 2) ≤ b
  rotate_left
  · rw [yesF c2, if_pos rfl, yesF (fun k => c2 k.2.1)]
  rw [yesT c2, if_neg one0]
  by_cases c3 : a = b
  · rw [if_pos c3, yesF (fun k => k.2.2.1 c3)]
  obtain ⟨i, hi, rfl⟩ := told (by omega) c1
  obtain ⟨k, hk, rfl⟩ := told (by omega) c2
  have fi := hWV.2.2.1 i hi
  have fk := hWV.2.2.1 k hk
  have xi : ix (nI i) = i := ix_nI (by omega)
  have xk : ix (nI k) = k := ix_nI (by omega)
  rw [if_neg c3, ck_p ob.k9, ob.R8, rq_s, ck_p pv.1.1, vR_flue pv.1, rq_s, ck_p (vK_flue pv.1), vN_flue pv.1, ck_p (nI_ix (show i < 4 by omega) (by decide)), rq_s, ck_p pv.1.1, vR_flue pv.1, rq_s, ck_p (vK_flue pv.1), vN_flue pv.1, ck_p (nI_ix (show k < 4 by omega) (by decide)), ite_i (show (hI h (v + 6) (ix (nI i)) = hI h (v + 6) (ix (nI k))) ↔ (aF A i = aF A k) by rw [xi, xk, pv.2.1.2.2.2.1 i hi, pv.2.1.2.2.2.1 k hk]; exact nI_eq (by omega) (by omega))]
  by_cases c4 : aF A i = aF A k
  rotate_left
  · rw [if_neg c4, yesF (fun q => c4 (by have := q.2.2.2.1; rw [xi, xk] at this; exact this))]
  rw [if_pos c4, ob.R1, rq_s, ck_p ob.mt.1, ob.mt.2.1.1, rq_s, ck_p ob.st.1, c_burns (N := N) ob.st cS hT (by omega), cl_s]
  by_cases c5 : 0 < tL S i
  · rw [yesT c5, if_neg one0, yesF (fun q => by have := q.2.2.2.2.1; rw [xi] at this; omega)]
  rw [yesF c5, if_pos rfl, ck_p ob.k9, ob.R1, rq_s, ck_p ob.mt.1, ob.mt.2.1.1, rq_s, ck_p ob.st.1, c_burns (N := N) ob.st cS hT (by omega), cl_s]
  by_cases c6 : 0 < tL S k
  · rw [yesT c6, if_neg one0, yesF (fun q => by have := q.2.2.2.2.2; rw [xk] at this; omega)]
  rw [yesF c6, if_pos rfl, yesT ⟨c1, c2, c3, by rw [xi, xk]; exact c4, by rw [xi]; omega, by rw [xk]; omega⟩]
theorem c_rh {v w' : Nat} {h : PH} (ob : OB h x v w') (pv : VA h v A) (cS : CS h (x + 3 + 1) S) (hT : WS A J S) (a b s t z w : Int32) : f_X10_rests N x a b s t z w h = if RCc A S a b s t z w then f_X10_rests_74 N N x a b s t z w 0 0 h else some (none, h) := by
  unfold f_X10_rests f_X10_rests_34 f_X10_rests_60
  rw [ck_p ob.k9, c_areN (N := N) ob pv cS hT, cl_s]
  by_cases c1 : NBc A S a b
  rotate_left
  · rw [yesF c1, if_pos rfl, if_neg (fun k => c1 k.1)]
  rw [yesT c1, if_neg one0, ck_p ob.k9, ob.R8, rq_s, ck_p pv.1.1, c_has3 pv, cl_s]
  by_cases c2 : ¬ s < 0 ∧ ¬ nI (aC A 3) ≤ s
  rotate_left
  · rw [yesF c2, if_pos rfl, if_neg (fun k => c2 k.2.1)]
  rw [yesT c2, if_neg one0, ck_p ob.k9, ob.R8, rq_s, ck_p pv.1.1, c_has3 pv, cl_s]
  by_cases c3 : ¬ t < 0 ∧ ¬ nI (aC A 3) ≤ t
  rotate_left
  · rw [yesF c3, if_pos rfl, if_neg (fun k => c3 k.2.2.1)]
  rw [yesT c3, if_neg one0]
  by_cases c4 : z < 0
  · rw [if_pos c4, if_neg (fun k => k.2.2.2.1.1 c4)]
  rw [if_neg c4]
  by_cases c5 : (99 : Int32) < z
  · rw [if_pos c5, if_neg (fun k => k.2.2.2.1.2 c5)]
  rw [if_neg c5]
  by_cases c6 : w < (-1 : Int32)
  · rw [if_neg (show ¬ (-1 : Int32) ≤ w by rw [fa_lt] at c6; rw [fa_le]; omega), if_neg (fun k => k.2.2.2.2 c6)]
  · rw [if_pos (show (-1 : Int32) ≤ w by rw [fa_lt] at c6; rw [fa_le]; omega), if_pos ⟨c1, c2, c3, ⟨c4, c5⟩, c6⟩]
theorem m_rh {h : PH} (p : MA N h y A) (rS : RS (hI h (y + 37)) 0 S) (hT : WS A J S) (a b s t z w : Int32) : f_X11_rests N y a b s t z w h = if RCc A S a b s t z w then f_X11_rests_92 N 0 y y a b s t z w h else f_X11_rests_91 N y y a b s t z w h := by
  have m := p.1
  have hWV := p.2.2.1
  have h3 := hWV.1.2.1
  have h4 := hWV.1.2.2.1
  unfold f_X11_rests
  rw [ck_p m.1, m_isHouse m p.2.1, cl_s]
  by_cases c1 : ¬ a < 0 ∧ ¬ nI (aC A 2) ≤ a
  rotate_left
  · rw [yesF c1, if_pos rfl, if_neg (fun k => c1 k.1.1)]
  rw [yesT c1, if_neg one0, ck_p m.1, m_isHouse m p.2.1, cl_s]
  by_cases c2 : ¬ b < 0 ∧ ¬ nI (aC A 2) ≤ b
  rotate_left
  · rw [yesF c2, if_pos rfl, if_neg (fun k => c2 k.1.2.1)]
  rw [yesT c2, if_neg one0]
  by_cases c3 : a = b
  · rw [if_pos c3, if_neg (fun k => k.1.2.2.1 c3)]
  obtain ⟨i, hi, rfl⟩ := told (by omega) c1
  obtain ⟨k, hk, rfl⟩ := told (by omega) c2
  have fi := hWV.2.2.1 i hi
  have fk := hWV.2.2.1 k hk
  have xi : ix (nI i) = i := ix_nI (by omega)
  have xk : ix (nI k) = k := ix_nI (by omega)
  rw [if_neg c3, ck_p m.1, mR_houseAt m, rq_s, ck_p (mK_houseAt m), mN_houseAt m, ck_p (nI_ix (show i < 8 by omega) (by decide)), rq_s, ck_p (mK_houseAt m), mN_houseAt m, ck_p (nI_ix (show k < 8 by omega) (by decide)), ite_i (show (hI h (y + 7) (ix (nI i)) = hI h (y + 7) (ix (nI k))) ↔ (aF A i = aF A k) by rw [xi, xk, p.2.1.2.2.1 i hi, p.2.1.2.2.1 k hk]; exact nI_eq (by omega) (by omega))]
  by_cases c4 : aF A i = aF A k
  rotate_left
  · rw [if_neg c4, if_neg (fun q => c4 (by have := q.1.2.2.2.1; rw [xi, xk] at this; exact this))]
  rw [if_pos c4, m_isFire m rS hT (by omega), cl_s]
  by_cases c5 : 0 < tL S i
  · rw [yesT c5, if_neg one0, if_neg (fun q => by have := q.1.2.2.2.2.1; rw [xi] at this; omega)]
  rw [yesF c5, if_pos rfl, ck_p m.1, m_isFire m rS hT (by omega), cl_s]
  by_cases c6 : 0 < tL S k
  · rw [yesT c6, if_neg one0, if_neg (fun q => by have := q.1.2.2.2.2.2; rw [xk] at this; omega)]
  have cn : NBc A S (nI i) (nI k) := ⟨c1, c2, c3, by rw [xi, xk]; exact c4, by rw [xi]; omega, by rw [xk]; omega⟩
  rw [yesF c6, if_pos rfl, ck_p m.1, m_isTold m p.2.1, cl_s]
  by_cases c7 : ¬ s < 0 ∧ ¬ nI (aC A 3) ≤ s
  rotate_left
  · rw [yesF c7, if_pos rfl, if_neg (fun k => c7 k.2.1)]
  rw [yesT c7, if_neg one0, ck_p m.1, m_isTold m p.2.1, cl_s]
  by_cases c8 : ¬ t < 0 ∧ ¬ nI (aC A 3) ≤ t
  rotate_left
  · rw [yesF c8, if_pos rfl, if_neg (fun k => c8 k.2.2.1)]
  rw [yesT c8, if_neg one0, m_within, cl_s]
  by_cases c9 : ¬ z < 0 ∧ ¬ (99 : Int32) < z
  rotate_left
  · rw [yesF c9, if_pos rfl, if_neg (fun k => c9 k.2.2.2.1)]
  rw [yesT c9, if_neg one0]
  by_cases c10 : w < (-1 : Int32)
  · rw [if_pos c10, if_neg (fun k => k.2.2.2.2 c10)]
  · rw [if_neg c10, if_pos ⟨cn, c7, c8, c9, c10⟩]
theorem INVq.kxo {h h' : PH} {v w : Nat} {A : AV} {M : AM} {pn pc : Nat} {P : Nat → AS} {lb : Nat → Bool} {K : Nat → AM} {tn : Nat} {tb : Nat → Nat} (g : Kx x (fun z => z ≠ o) h h') (q : INVq N x y o J h v w A M pn pc P lb K tn tb) : INVq N x y o J h' v w A M pn pc P lb K tn tb := by
  have y0 := q.1.1
  have o0 := q.1.2.1
  have z0 := q.1.2.2.1
  have vw := q.2.1.1
  have hz := q.2.1.2.1
  refine q.keep (g.mono (fun z hz => by unfold Kp at hz; omega)) (q.2.2.1.kx g (fun z z1 z2 => by omega) (by omega) (by omega)) (g.2 (v + 2) (by omega)).2 (by rw [(g.2 y (by omega)).1]) (by rw [(g.2 y (by omega)).1])
theorem INVq.mid {h h' : PH} {r : Option Int32} {v w : Nat} {A : AV} {M : AM} {pn pc : Nat} {P : Nat → AS} {lb : Nat → Bool} {K : Nat → AM} {tn : Nat} {tb : Nat → Nat} (g : R_mid o r h h') (q : INVq N x y o J h v w A M pn pc P lb K tn tb) : INVq N x y o J h' v w A M pn pc P lb K tn tb := by
  cases r with
  | none =>
    obtain ⟨k, hk, rfl⟩ := g
    exact q.kxo (h := h) (h' := gr h k) ⟨⟨rfl, hk, fun _ _ => ⟨rfl, rfl⟩, fun _ _ _ _ _ _ => rfl⟩, fun _ _ => ⟨rfl, rfl⟩⟩
  | some u =>
    have g : h' = sJ h o 0 u.toInt64 := g
    subst g
    exact q.kxo (h := h) (h' := sJ h o 0 u.toInt64) ⟨⟨rfl, Nat.le_refl _, fun _ _ => ⟨rfl, rfl⟩, fun _ _ _ _ _ _ => rfl⟩, fun z hz => ⟨rfl, va_ne hz⟩⟩
theorem wpR {a0 a1 a2 a3 a4 a5 : Int32} {h h1 : PH} {rc : Option Int32} {v w : Nat} {A : AV} {M : AM} {pn pc : Nat} {P : Nat → AS} {lb : Nat → Bool} {K : Nat → AM} {tn : Nat} {tb : Nat → Nat} (e1 : f_X10_rests N x a0 a1 a2 a3 a4 a5 h = some (rc, h1)) (q1 : INVq N x y o J h1 v w A M pn pc P lb K tn tb) (e2 : ∀ h2, INVq N x y o J h2 v w A M pn pc P lb K tn tb → ∃ h3, f_X11_rests N y a0 a1 a2 a3 a4 a5 h2 = some (rc.getD 0, h3) ∧ Ex (hpP y) h2 h3 ∧ hI h3 y 0 = (if rc = none then 1 else 0) ∧ ∀ j, j ≠ 0 → hI h3 y j = hI h2 y j) : wp (f_X10_rests N x a0 a1 a2 a3 a4 a5 h) (fun r h1 => (hK h1 o = 14 ∧ 0 < hN h1 o) ∧ ∀ h2, R_mid o r h1 h2 → hK h2 y = 10 ∧ wp (f_X11_rests N y a0 a1 a2 a3 a4 a5 h2) (fun r2 h3 => hK h3 y = 10 ∧ wp (f_X11_thrown N y h3) (fun r3 h4 => (r = none → r3 = 1) ∧ (∀ v, r = some v → r3 = 0 ∧ r2 = v ∧ hJ h4 o 0 = v.toInt64 ∧ hK h4 o = 14 ∧ 0 < hN h4 o) ∧ INV N x y o (J + 1) h4))) := by
  refine ⟨rc, h1, e1, ⟨q1.1.2.2.2.1, by rw [q1.1.2.2.2.2.1]; decide⟩, fun h2 mid => ?_⟩
  have q2 := q1.mid mid
  obtain ⟨h3, r1, r2, r3, r4⟩ := e2 h2 q2
  have q3 := exH r2 (r4 1 (by decide)) (r4 54 (by decide)) q2
  have k3 := q3.2.2.2.1.1.1
  refine ⟨q2.2.2.2.1.1.1, rc.getD 0, h3, r1, k3, hI h3 y 0, h3, ?_, fun e => by rw [r3, if_pos e], fun v e => ?_, q3.inv⟩
  · unfold f_X11_thrown
    rw [ck_p k3]
  · subst e
    refine ⟨by rw [r3]; rfl, rfl, ?_, q3.1.2.2.2.1, by rw [q3.1.2.2.2.2.1]; decide⟩
    have mid : h2 = sJ h1 o 0 v.toInt64 := mid
    rw [r2.2.2.1, mid, hJ_sJ]
    unfold up2
    rw [va_eq, va_eq]
theorem d_rests (hN2 : 5000 ≤ N) (hJ5 : J < 512) : D_rests (INV N x y o J) (INV N x y o (J + 1)) N x y o := by
  intro a0 a1 a2 a3 a4 a5 h ⟨v, w, A, M, pn, pc, P, lb, K, tn, tb, q⟩
  obtain ⟨p0, ob, pv, pm, pnm, ⟨cM, rS, rD, -, wM⟩, pP, pK, pT⟩ := id q
  have hWV := pv.2.2.1
  have h5 := hWV.1.1
  have h3 := hWV.1.2.1
  have h4 := hWV.1.2.2.1
  have h6 := hWV.1.2.2.2.1
  by_cases cc : RCc A M.1 a0 a1 a2 a3 a4 a5
  rotate_left
  · refine wpR (rc := none) (h1 := h) (by rw [c_rh (N := N) ob pv cM.1 wM.1, if_neg cc]) q (fun h2 q2 => ?_)
    obtain ⟨-, -, -, pm2, -, ⟨-, rS2, -, -, wM2⟩, -⟩ := id q2
    refine ⟨sI h2 y 0 1, ?_, Ex.sI (Or.inl rfl), by rw [hI_sI_eq, va_eq]; rfl, fun j hj => by rw [hI_sI_eq, va_ne hj]⟩
    have k' : hK (sI h2 y 0 1) y = 10 := pm2.1.1
    rw [m_rh pm2 rS2 wM2.1, if_neg cc]
    unfold f_X11_rests_91 f_X11_rests_92
    rw [ck_p pm2.1.1, bd_e, ck_p k', if_pos (by rw [hI_sI_eq, va_eq])]
    rfl
  obtain ⟨⟨c1, c2, c3, c4, c5, c6⟩, c7, c8, c9, c10⟩ := id cc
  obtain ⟨i, hi, rfl⟩ := told (by omega) c1
  obtain ⟨k, hk, rfl⟩ := told (by omega) c2
  obtain ⟨s, hs, rfl⟩ := told (by omega) c7
  obtain ⟨t, ht, rfl⟩ := told (by omega) c8
  have xi : ix (nI i) = i := ix_nI (by omega)
  have xk : ix (nI k) = k := ix_nI (by omega)
  rw [xi, xk] at c4
  rw [xi] at c5
  rw [xk] at c6
  have nik : i ≠ k := fun z => c3 (by rw [z])
  have nb : NB A M.1 (aF A i) i k := ⟨noF_b.mpr ⟨hi, rfl, c5⟩, noF_b.mpr ⟨hk, c4.symm, c6⟩, nik⟩
  have first : rR A (ctB A M.1 i k s t a4) a5 (36 - 6 * un (aC A 0) 0) (6 * un (aC A 0) 0) 0 = rR A (ctB A M.1 i k s t a4) a5 36 0 0 := by
    by_cases z : aC A 0 = 0
    · have e0 : un (aC A 0) 0 = 5 := by unfold un; rw [if_pos z.symm]
      rw [e0]
      exact (rR_p (fun p q p1 p2 => ctB_p p1 p2) 30 0 rfl (by omega)).symm
    · have e0 : un (aC A 0) 0 = 0 := by unfold un; rw [if_neg (fun q => z q.symm)]
      rw [e0]
  obtain ⟨h1, r1, r2, r3⟩ := c_r74 (N := N) (s := s) (t := t) (z := a4) (want := a5) (by omega) wM.1 (show J < 2 ^ 30 by omega) nb N 0 0 h (by omega) (by omega) ob pv cM.1
  rw [first] at r1
  refine wpR (rc := rR A (ctB A M.1 i k s t a4) a5 36 0 0) (h1 := h1) ?_ (q.gx r2 r3) (fun h2 q2 => ?_)
  · rw [c_rh (N := N) ob pv cM.1 wM.1, if_pos cc]
    exact r1
  · obtain ⟨-, -, -, pm2, -, ⟨-, rS2, -, -, wM2⟩, -⟩ := id q2
    have q3 := q2.thr 0
    obtain ⟨-, -, -, pm3, -, ⟨-, rS3, -, -, wM3⟩, -⟩ := id q3
    have y00 : hI (sI h2 y 0 0) y 0 = 0 := by rw [hI_sI_eq, va_eq]
    have yj : ∀ j, j ≠ 0 → hI (sI h2 y 0 0) y j = hI h2 y j := fun j hj => by rw [hI_sI_eq, va_ne hj]
    have E1 : Ex (hpP y) h2 (sI h2 y 0 0) := Ex.sI (Or.inl rfl)
    have un1 : f_X11_rests N y (nI i) (nI k) (nI s) (nI t) a4 a5 h2 = (cl (f_X11_noneBurns N y (sI h2 y 0 0)) fun _ h6 => f_X11_rests_115 N N y (nI i) (nI k) (nI s) (nI t) a4 a5 0 0 h6) := by
      rw [m_rh pm2 rS2 wM2.1, if_pos cc]
      unfold f_X11_rests_92
      rw [ck_p pm2.1.1, bd_e, ck_p pm3.1.1, y00, if_neg (by decide)]
    generalize sI h2 y 0 0 = g0 at *
    obtain ⟨g1, s1, s2, s3⟩ := m_nb (N := N) (y := y) (u := u5) N 0 g0 (by omega) (by omega) pm3.1 (fun j hj => absurd hj (Nat.not_lt_zero j))
    have p1 := pm3.ex s2 (fun z z1 z2 z3 => by omega)
    have rS4 := rS3.ex s2 (by omega)
    have ey : hI g1 y = hI g0 y := s2.2.2.2 y (by omega)
    obtain ⟨h3', t1, t2, t3, t4⟩ := m_r115 (N := N) (s := s) (t := t) (z := a4) (want := a5) (by omega) wM.1 (show J < 2 ^ 30 by omega) hi hk nik N 0 5 5 0 g1 (by omega) (by omega) p1 rS4 (fun j hj => by
      rw [s3 j hj]
      unfold w2
      split
      · rfl
      · split <;> rfl) (by rw [ey]; exact y00)
    refine ⟨h3', ?_, (E1.trans (Ex.mono (Q := hpP y) s2 (fun z hz => Or.inr (Or.inl hz)))).trans t2, t3, fun j hj => by rw [t4 j hj, ey, yj j hj]⟩
    have s1 : f_X11_noneBurns N y g0 = some ((), g1) := s1
    rw [un1, s1, cl_s]
    exact t1
end RH
