/-! The duty of ask, the reference's side. -/
section AK2
variable {N x y o J : Nat} {A : AV} {S : AS} {R : AR}
theorem m_ak27 (hN : 5000 ≤ N) (hT : WS A J S) (hJ : J < 2 ^ 30) (wR : WR A R) {w : Nat} (hw : w < aC A 4) : ∀ (n f : Nat) (s : Nat × Int32) (h : PH), aC A 1 < n + f → f ≤ aC A 1 → s.1 ≤ 1296 → MA N h y A → RS (hI h (y + 37)) 0 S → RR h y 0 R → ∃ h', (∀ K, f_X11_ask_27 N K n y (nI s.1) s.2 (nI w) (nI f) h = K y (nI (ak1 (mW A S R w) w (aC A 1 - f) f s).1) (ak1 (mW A S R w) w (aC A 1 - f) f s).2 (nI (w + 1)) h') ∧ Ex (lwP y) h h' ∧ MA N h' y A ∧ RS (hI h' (y + 37)) 0 S ∧ RR h' y 0 R
  | 0, f, s, h, h1, h2, _, _, _, _ => by omega
  | n + 1, f, s, h, h1, h2, hs, p, rS, rR => by
    have m := p.1
    have hW := p.2.2.1
    have h3 := hW.1.2.1
    have h8 := hW.1.2.2.2.2.1
    have ml := mW_le (A := A) (S := S) (R := R) w f
    have hd : ∀ K, f_X11_ask_27 N K (n + 1) y (nI s.1) s.2 (nI w) (nI f) h = if aC A 1 ≤ f then K y (nI s.1) s.2 (nI (w + 1)) h else cl (f_X11_mostAlike N y (nI w) (nI f) h) fun r7 h8 => if r7 < nI s.1 then f_X11_ask_66 N K (f_X11_ask_27 N K n) y r7 ((3 : Int32) * nI w + nI f) (nI w) (nI f) h8 else f_X11_ask_66 N K (f_X11_ask_27 N K n) y (nI s.1) s.2 (nI w) (nI f) h8 := fun K => by
      show f_X11_ask_27_b N K (f_X11_ask_27 N K n) y _ _ _ _ h = _
      unfold f_X11_ask_27_b
      rw [ck_p m.1, mR_valley m, rq_s, ck_p (mK_valley m), mN_valley m, ck_p (by decide), p.2.1.1 1 (by decide), ite_i (nI_leI (by omega) (by omega)), bd_e, nI_1]
      rfl
    by_cases c : aC A 1 ≤ f
    · refine ⟨h, fun K => ?_, Ex.rf, p, rS, rR⟩
      rw [hd K, if_pos c, show aC A 1 - f = 0 by omega]
      rfl
    · obtain ⟨g, r1, r2, p1, rS1, rR1⟩ := m_mostAlike (N := N) hN hT hJ hw (show f < aC A 1 by omega) wR p rS rR
      have r1 : f_X11_mostAlike N y (nI w) (nI f) h = some (nI (mW A S R w f), g) := r1
      obtain ⟨h', t1, t2, t3⟩ := m_ak27 hN hT hJ wR hw n (f + 1) (if mW A S R w f < s.1 then (mW A S R w f, nI (3 * w + f)) else s) g (by omega) (by omega) (by split <;> assumption) p1 rS1 rR1
      have i2 : (3 : Int32) * nI w + nI f = nI (3 * w + f) := by
        rw [show (3 : Int32) = nI 3 from rfl, pk_mul, nI_add]
      refine ⟨h', fun K => ?_, r2.trans t2, t3⟩
      rw [hd K, if_neg c, r1, cl_s, i2, ite_i (nI_ltI (a := mW A S R w f) (b := s.1) (by omega) (by omega)), show aC A 1 - f = (aC A 1 - (f + 1)) + 1 by omega]
      refine Eq.trans ?_ (t1 K)
      unfold f_X11_ask_66
      rw [bd_e, bd_e, nI_1]
      by_cases q : mW A S R w f < s.1
      · rw [if_pos q, if_pos q]
      · rw [if_neg q, if_neg q]
theorem m_ak14 (hN : 5000 ≤ N) (hT : WS A J S) (hJ : J < 2 ^ 30) (wR : WR A R) : ∀ (n w : Nat) (s : Nat × Int32) (h : PH), aC A 4 < n + w → w ≤ aC A 4 → s.1 ≤ 1296 → MA N h y A → RS (hI h (y + 37)) 0 S → RR h y 0 R → ∃ h', f_X11_ask_14 N n y (nI s.1) s.2 (nI w) h = some ((ak2 (mW A S R) (aC A 1) (aC A 4 - w) w s).2, h') ∧ Ex (lwP y) h h'
  | 0, w, s, h, h1, h2, _, _, _, _ => by omega
  | n + 1, w, s, h, h1, h2, hs, p, rS, rR => by
    have m := p.1
    have hW := p.2.2.1
    have h3 := hW.1.2.1
    have h8 := hW.1.2.2.2.2.1
    show ∃ h', f_X11_ask_14_b N (f_X11_ask_14 N n) y _ _ _ h = _ ∧ _
    unfold f_X11_ask_14_b
    rw [ck_p m.1, mR_valley m, rq_s, ck_p (mK_valley m), mN_valley m, ck_p (by decide), p.2.1.1 4 (by decide), ite_i (nI_leI (by omega) (by omega))]
    by_cases c : aC A 4 ≤ w
    · rw [if_pos c, show aC A 4 - w = 0 by omega]
      exact ⟨h, rfl, Ex.rf⟩
    · obtain ⟨g, r1, r2, p1, rS1, rR1⟩ := m_ak27 (N := N) (y := y) hN hT hJ wR (show w < aC A 4 by omega) N 0 s h (by omega) (by omega) hs p rS rR
      have q := r1 (f_X11_ask_14 N n)
      rw [Nat.sub_zero] at q
      obtain ⟨h', t1, t2⟩ := m_ak14 hN hT hJ wR n (w + 1) (ak1 (mW A S R w) w (aC A 1) 0 s) g (by omega) (by omega) (ak1_le (fun f => mW_le w f) _ _ _ hs) p1 rS1 rR1
      rw [if_neg c, show aC A 4 - w = (aC A 4 - (w + 1)) + 1 by omega]
      exact ⟨h', q.trans t1, r2.trans t2⟩
theorem d_ask (hN2 : 5000 ≤ N) (hJ5 : J < 512) : D_ask (INV N x y o J) (INV N x y o (J + 1)) N x y := by
  intro h ⟨v, w, A, M, pn, pc, P, lb, K, tn, tb, q⟩
  obtain ⟨p0, ob, pv, pm, pnm, ⟨cM, rS, rD, rR, wM⟩, pP, pK, pT⟩ := id q
  have y0 := p0.1
  have o0 := p0.2.1
  have z0 := p0.2.2.1
  have vw := ob.1
  have hW := pv.2.2.1
  have h3 := hW.1.2.1
  have h8 := hW.1.2.2.2.2.1
  have wR := wM.2.2
  have gl := GL_le (A := A) (S := M.1) (R := M.2.2)
  have ak0 : AK A M.1 M.2.2 h (x + 41) (x + 42) 0 := ⟨⟨ob.fw.2.1.1, ob.fw.2.1.2, ob.fw.2.2.1, ob.fw.2.2.2⟩, fun g hg => absurd hg (Nat.not_lt_zero g)⟩
  have un1 : f_X10_ask N x h = f_X10_ask_14 N N x (nI (aC A 1)) 1 0 h := by
    unfold f_X10_ask
    rw [ck_p ob.k9, ob.R8, rq_s, ck_p pv.1.1, vR_many pv.1, rq_s, ck_p (vK_many pv.1), vN_many pv.1, ck_p (by decide), pv.2.1.1 1 (by decide), bd_e]
  obtain ⟨h1, r1, k1, pv1, ak1'⟩ := c_ak25 (N := N) (x := x) hN2 (show J < 2 ^ 30 by omega) wM hW N 0 h (by omega) (by omega) ob pv cM ak0
  have ob1 := ob.shp k1.1
  have kA : Kx x (Kp x y) h h1 := k1.mono (fun z hz' => by unfold Kp at hz'; unfold akP wkR; omega)
  have kv : hJ h1 (v + 2) = hJ h (v + 2) := (k1.2 (v + 2) (by unfold akP wkR; omega)).2
  have ey : hI h1 y = hI h y := (k1.2 y (by unfold akP wkR; omega)).1
  have q1 := q.keep kA pv1 kv (by rw [ey]) (by rw [ey])
  have q2 := q1.thr 0
  obtain ⟨-, -, -, pm1, -⟩ := id q1
  obtain ⟨-, -, -, pm3, -, ⟨-, rS3, -, rR3, wM3⟩, -⟩ := id q2
  obtain ⟨h2, s1, s2, p4, rS4, rR4, -⟩ := m_laysWays (N := N) (by omega) wM.1 (by omega) wR pm3 rS3 rR3
  obtain ⟨h3', t1, t2⟩ := m_ak14 (N := N) (y := y) hN2 wM.1 (by omega) wR N 0 ((GL A M.1 M.2.2).length, -1) h2 (by omega) (by omega) gl p4 rS4 rR4
  have c1 := c_ak132 (N := N) ob1 pv1 wR ak1' (by omega) N 0 ((GL A M.1 M.2.2).length, -1) (by omega) (by omega) gl
  refine wp2 (r := (ak2 (mW A M.1 M.2.2) (aC A 1) (aC A 4 - 0) 0 ((GL A M.1 M.2.2).length, -1)).2) (h1 := h1) (h2 := h3') ?_ pm1.1.1 ?_ (exL t2 (exL s2 q2)).inv
  · rw [un1]
    exact (show f_X10_ask_14 N N x (nI (aC A 1)) 1 0 h = _ from r1).trans c1
  · unfold f_X11_ask
    rw [ck_p pm1.1.1, bd_e, ck_p pm3.1.1, s1, cl_s]
    exact t1
end AK2
