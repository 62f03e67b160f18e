/-! Duties: burn, lend, hour, undo. -/
section DV
variable {N x y o J : Nat}
/-- behind the class's part the reference's start as it was -/
theorem ref_at {h h2 : PH} {v w : Nat} {A : AV} {M : AM} {pn pc : Nat} {P : Nat → AS} {lb : Nat → Bool} {K : Nat → AM} {tn : Nat} {tb : Nat → Nat} (q : INVq N x y o J h v w A M pn pc P lb K tn tb) {Q : Nat → Prop} (e : Ex Q h h2) (hQ : ∀ z, Q z → z < y) : MA N (sI h2 y 0 0) y A ∧ RS (hI (sI h2 y 0 0) (y + 37)) 0 M.1 ∧ hI (sI h2 y 0 0) y 54 = nI pc ∧ (∀ i, i < pc → RS (hI (sI h2 y 0 0) (y + 40)) (32 * i) (P i)) ∧ hI (sI h2 y 0 0) y 1 = nI tn ∧ Ex (fun z => Q z ∨ z = y) h (sI h2 y 0 0) := by
  obtain ⟨p0, ob, pv, pm, pnm, ⟨cM, rS, rD, rR, wM⟩, pP, pK, pT⟩ := q
  have e2 : Ex (fun z => Q z ∨ z = y) h (sI h2 y 0 0) := (e.mono (fun z hz => Or.inl hz)).trans (Ex.sI (Or.inr rfl))
  have nq : ∀ k, 1 ≤ k → ¬ (Q (y + k) ∨ y + k = y) := fun k hk z => by
    rcases z with z | z
    · have := hQ _ z; omega
    · omega
  have hy : hI h2 y = hI h y := e.2.2.2 y (fun z => by have := hQ _ z; omega)
  refine ⟨pm.ex e2 (fun z z1 z2 z3 => ?_), ?_, ?_, fun i hi => ?_, ?_, e2⟩
  · obtain ⟨k, rfl⟩ : ∃ k, z = y + k := ⟨z - y, by omega⟩
    exact nq k (by omega) z3
  · exact rS.ex e2 (nq 37 (by decide))
  · rw [hI_sI_eq, va_ne (by decide), hy]; exact pP.1.2.2.2.2
  · exact (pP.2 i hi).2.1.ex e2 (nq 40 (by decide))
  · rw [hI_sI_eq, va_ne (by decide), hy]; exact pT.2.2.1
def Pb (x y z : Nat) : Prop := z = x ∨ inS (x + 3 + 1) z ∨ (x + 123 ≤ z ∧ z < x + 203) ∨ z = y ∨ z = y + 40 ∨ z = y + 37
/-- behind both parts of a step that keeps a state -/
theorem two_fin {h h1 h2 h3 h4 : PH} {v w : Nat} {A : AV} {M : AM} {S' : AS} {pn pc : Nat} {P : Nat → AS} {lb : Nat → Bool} {K : Nat → AM} {tn : Nat} {tb : Nat → Nat} (q : INVq N x y o J h v w A M pn pc P lb K tn tb) (e1 : Ex (fun z => z = x ∨ inS (x + 123 + 5 * pn) z) h h1) (ex : hI h1 x = va_up (va_up (hI h x) 13 (nI ((pn + 1) % 16))) 14 (nI (min (pc + 1) 16))) (cs1 : CS h1 (x + 123 + 5 * pn) M.1) (e2 : Ex (inS (x + 3 + 1)) h1 h2) (cs2 : CS h2 (x + 3 + 1) S') (e3 : Ex (fun z => z = y ∨ z = y + 40) (sI h2 y 0 0) h3) (k1 : ∀ k, k ≠ 54 → hI h3 y k = hI (sI h2 y 0 0) y k) (k2 : hI h3 y 54 = nI (min (pc + 1) 16)) (k3 : ∀ i, i < min (pc + 1) 16 → RS (hI h3 (y + 40)) (32 * i) (pushP P pc M.1 i)) (e4 : Ex (fun z => z = y + 37) h3 h4) (rs : RS (hI h4 (y + 37)) 0 S') (ws : WS A J S') : INV N x y o (J + 1) h4 := by
  obtain ⟨p0, ob, pv, pm, pnm, ⟨cM, rS, rD, rR, wM⟩, pP, pK, pT⟩ := id q
  have y0 := p0.1
  have vw := ob.1
  have hpn := pP.1.1
  have t2 : Ex (fun z => z < y) h h2 := (e1.mono (fun z hz => by unfold inS at hz; omega)).trans (e2.mono (fun z hz => by unfold inS at hz; omega))
  obtain ⟨-, -, -, -, ey1, -⟩ := ref_at q t2 (fun z hz => hz)
  have T : Ex (Pb x y) h h4 := ((((e1.mono (Q := Pb x y) (fun z hz => by unfold inS at hz; unfold Pb inS; omega)).trans (e2.mono (Q := Pb x y) (fun z hz => Or.inr (Or.inl hz)))).trans (Ex.sI (P := Pb x y) (a := y) (k := 0) (v := 0) (Or.inr (Or.inr (Or.inr (Or.inl rfl)))))).trans (e3.mono (Q := Pb x y) (fun z hz => by unfold Pb; omega))).trans (e4.mono (Q := Pb x y) (fun z hz => by unfold Pb; omega))
  have ex4 : hI h4 x = hI h1 x := by
    rw [e4.2.2.2 x (by omega), e3.2.2.2 x (by omega), hI_sI_ne (by omega), e2.2.2.2 x (by unfold inS; omega)]
  have hp4 : ∀ z, x + 123 ≤ z → z < x + 203 → hI h4 z = hI h1 z := fun z z1 z2 => by
    rw [e4.2.2.2 z (by omega), e3.2.2.2 z (by omega), hI_sI_ne (by omega), e2.2.2.2 z (by unfold inS; omega)]
  have hc4 : CS h4 (x + 3 + 1) S' := by
    have c := cs2.ex (Ex.sI (P := fun z => z = y) (a := y) (k := 0) (v := 0) rfl) (fun z z1 z2 z3 => by omega)
    exact (c.ex e3 (fun z z1 z2 z3 => by omega)).ex e4 (fun z z1 z2 z3 => by omega)
  have ip := push_c (h2 := h4) pP wM.1 e1 ex cs1 hp4 (fun k hk => by rw [ex4]) (by rw [e4.2.2.2 y (by omega)]; exact k2) (fun i hi => by rw [e4.2.2.2 (y + 40) (by omega)]; exact k3 i hi)
  have g := T.mono (Q := St x y) (fun z hz => by unfold Pb inS at hz; unfold St; omega)
  have kk : Kx x (fun z => ¬ Pb x y z) h h4 := T.kx (fun z hz => hz)
  exact (step_fin q (Nat.le_refl J) g (pv.ex T (fun z z1 z2 z3 => by unfold Pb inS at z3; omega)) (by rw [ex4, ex, va_ne (by decide), va_ne (by decide)]) (by rw [e4.2.2.2 y (by omega), k1 1 (by decide), ey1]; exact pT.2.2.1.symm) (fun k _ => by rw [T.2.2.2 (y + 33) (by unfold Pb inS; omega)]) hc4 rs (by
    have := cM.2.2
    unfold CR at this ⊢
    rw [T.2.2.2 (x + 3) (by unfold Pb inS; omega), T.2.2.2 (x + 3 + 8) (by unfold Pb inS; omega), T.2.2.2 (x + 3 + 9) (by unfold Pb inS; omega), T.2.2.2 (x + 3 + 10) (by unfold Pb inS; omega)]
    exact this) (rR.kx kk (fun z z1 z2 => by unfold Pb inS; omega)) ws wM.2.2 ip).inv
theorem d_burn (hN : 2000 ≤ N) : D_burn (INV N x y o J) (INV N x y o (J + 1)) N x y := by
  intro a b h ⟨v, w, A, M, pn, pc, P, lb, K, tn, tb, q⟩
  obtain ⟨p0, ob, pv, pm, pnm, ⟨cM, rS, rD, rR, wM⟩, pP, pK, pT⟩ := id q
  have y0 := p0.1
  have vw := ob.1
  have hW := pv.2.2.1
  have h5 := hW.1.1
  have h4 := hW.1.2.2.1
  have cb := c_canBurn (N := N) ob pv cM.1 wM.1 a b
  by_cases c : (¬ a < 0 ∧ ¬ nI (aC A 2) ≤ a) ∧ (¬ b < 0 ∧ ¬ nI (aC A 0) ≤ b) ∧ tL M.1 (ix a) = 0 ∧ 0 < tT M.1 (5 * ix a + ix b)
  rotate_left
  · have q2 := q.thr 0
    obtain ⟨-, -, -, pm2, -, ⟨-, rS2, -, -, wM2⟩, -⟩ := id q2
    refine wp2 (r := 0) (h1 := h) (h2 := sI h y 0 0) ?_ pm.1.1 ?_ q2.inv
    · unfold f_X10_burn
      rw [ck_p ob.k9, cb, cl_s, yesF c, if_pos rfl]
    · unfold f_X11_burn
      rw [ck_p pm.1.1, bd_e, ck_p pm2.1.1, m_isHouse pm2.1 pm2.2.1, cl_s]
      by_cases c1 : ¬ a < 0 ∧ ¬ nI (aC A 2) ≤ a
      · rw [yesT c1, if_neg one0, ck_p pm2.1.1, m_isFuel pm2.1 pm2.2.1, cl_s]
        by_cases c2 : ¬ b < 0 ∧ ¬ nI (aC A 0) ≤ b
        · obtain ⟨i, hi, rfl⟩ := told (by omega) c1
          obtain ⟨f, hf, rfl⟩ := told (by omega) c2
          rw [ix_nI (by omega), ix_nI (by omega)] at c
          rw [yesT c2, if_neg one0, ck_p pm2.1.1, m_canBurn pm2.1 rS2 wM2.1 (by omega) (by omega), cl_s, yesF (fun z => c ⟨c1, c2, z⟩), if_pos rfl]
        · rw [yesF c2, if_pos rfl]
      · rw [yesF c1, if_pos rfl]
  obtain ⟨i, hi, rfl⟩ := told (by omega) c.1
  obtain ⟨f, hf, rfl⟩ := told (by omega) c.2.1
  have ce := c.2.2
  rw [ix_nI (by omega), ix_nI (by omega)] at ce
  have hpn := pP.1.1
  obtain ⟨h1, r1, e1, ex, cs1⟩ := c_remember (N := N) ob cM.1 hpn pP.1.2.1 pP.1.2.2.1 pP.1.2.2.2.1
  have ob1 := ob.shp (x := x) e1.shp
  have pv1 := pv.ex e1 (fun z z1 z2 z3 => by unfold inS at z3; omega)
  have cM1 := cM.1.ex e1 (fun z z1 z2 z3 => by unfold inS at z3; omega)
  obtain ⟨h2, r2, e2, cs2⟩ := c_light (N := N) q.dj pv1 ob1.st cM1 wM.1 (i := i) (f := f) (by omega) hf
  rw [if_pos ce] at cs2
  have t2 : Ex (fun z => z < y) h h2 := (e1.mono (fun z hz => by unfold inS at hz; omega)).trans (e2.mono (fun z hz => by unfold inS at hz; omega))
  obtain ⟨pmh, rSh, k54, rPh, -, -⟩ := ref_at q t2 (fun z hz => hz)
  have m2 := pmh.1
  obtain ⟨h3, s1, s2, s3, s4, s5⟩ := m_keeps (N := N) (by omega) m2 pP.1.2.1 k54 rSh rPh
  have pm3 := pmh.ex s2 (fun z z1 z2 z3 => by omega)
  have rS3 := rSh.ex s2 (by omega)
  obtain ⟨h4', u1, u2, u3⟩ := m_lights (N := N) pm3 rS3 wM.1 (i := i) (f := f) (by omega) hf ce.2
  have ky : hK h2 y = 10 := by rw [e2.1.1, e1.1.1]; exact pm.1.1
  refine wp2 (r := 1) (h1 := h2) (h2 := h4') ?_ ky ?_ (two_fin q e1 ex cs1 e2 cs2 s2 s3 s4 s5 u2 u3 (wM.1.light hW hi hf))
  · unfold f_X10_burn
    rw [ck_p ob.k9, cb, cl_s, yesT c, if_neg one0, ck_p ob.k9, r1, cl_s, ck_p ob1.k9, ob1.R1, rq_s, ck_p ob1.mt.1, ob1.mt.2.1.1, rq_s, ob1.R8, rq_s, ck_p ob1.st.1, r2, cl_s, yesT ce, ck_p (Or.inr rfl)]
  · unfold f_X11_burn
    rw [ck_p ky, bd_e, ck_p m2.1, m_isHouse m2 pmh.2.1, cl_s, yesT c.1, if_neg one0, ck_p m2.1, m_isFuel m2 pmh.2.1, cl_s, yesT c.2.1, if_neg one0, ck_p m2.1, m_canBurn m2 rSh wM.1 (by omega) (by omega), cl_s, yesT ce, if_neg one0, ck_p m2.1, s1, cl_s, ck_p pm3.1.1, u1, cl_s]
theorem WS.hand {A : AV} {S : AS} {i q f m : Nat} (p : WS A J S) (hi : i < aC A 2) (hq : q < aC A 2) (hf : f < aC A 0) (h5 : aC A 0 ≤ 5) (h4 : aC A 2 ≤ 4) : WS A J (sHand S i q f m) := by
  obtain ⟨p1, p2, p3, p4, p5⟩ := p
  refine ⟨p1, p2, fun k hk => ?_, fun k g hk hg hc => ?_, p5⟩
  · show va_up (va_up (tT S) (5 * i + f) _) (5 * q + f) _ k ≤ 99
    by_cases c : k = 5 * q + f
    · rw [c, va_eq]; omega
    · rw [va_ne c]
      by_cases c2 : k = 5 * i + f
      · rw [c2, va_eq]
        have := p3 (5 * i + f) (by omega)
        omega
      · rw [va_ne c2]; exact p3 k hk
  · show va_up (va_up (tT S) (5 * i + f) _) (5 * q + f) _ (5 * k + g) = 0
    rw [va_ne (by omega), va_ne (by omega)]
    exact p4 k g hk hg hc
theorem m_lends {h : PH} {S : AS} (m : MD h y) (hS : RS (hI h (y + 37)) 0 S) {i q f n : Nat} (hi : i < 4) (hq : q < 4) (hf : f < 5) (hne : q ≠ i) (hn : n ≤ tT S (5 * i + f)) (hb : tT S (5 * q + f) + n < 2 ^ 31) : ∃ h', f_X11_lends N y (nI i) (nI q) (nI f) (nI n) h = some ((), h') ∧ Ex (fun z => z = y + 37) h h' ∧ RS (hI h' (y + 37)) 0 (sHand S i q f n) := by
  have v1 := hS.2.2.2.1 (5 * i + f) (by omega)
  have v2 := hS.2.2.2.1 (5 * q + f) (by omega)
  rw [Nat.zero_add] at v1 v2
  have j1 : inb (nI (9 + (5 * i + f))) 32 := nI_ix (by omega) (by omega)
  have j2 : inb (nI (9 + (5 * q + f))) 32 := nI_ix (by omega) (by omega)
  have k1 : ix (nI (9 + (5 * i + f))) = 9 + (5 * i + f) := ix_nI (by omega)
  have k2 : ix (nI (9 + (5 * q + f))) = 9 + (5 * q + f) := ix_nI (by omega)
  unfold f_X11_lends
  rw [ck_p m.1, mR_s m, rq_s, bd_e, m_ix, m_ix, ck_p (mK_s m), mN_s m, ck_p j1, k1, v1, pk_sub hn, bd_e]
  have x1 : Ex (fun z => z = y + 37) h (sI h (y + 37) (9 + (5 * i + f)) (nI (tT S (5 * i + f) - n))) := Ex.sI rfl
  have ea : hI (sI h (y + 37) (9 + (5 * i + f)) (nI (tT S (5 * i + f) - n))) (y + 37) = va_up (hI h (y + 37)) (9 + (5 * i + f)) (nI (tT S (5 * i + f) - n)) := hI_sI_eq
  generalize sI h (y + 37) (9 + (5 * i + f)) (nI (tT S (5 * i + f) - n)) = ha at x1 ea ⊢
  have ma := m.sm x1.1
  have v3 : hI ha (y + 37) (9 + (5 * q + f)) = nI (tT S (5 * q + f)) := by rw [ea, va_ne (by omega)]; exact v2
  rw [ck_p ma.1, mR_s ma, rq_s, rq_s, ck_p (mK_s ma), mN_s ma, ck_p j2, ck_p (mK_s ma), ck_p j2, k2, v3, nI_add, show (99 : Int32) = nI 99 from rfl, min9' hb (by decide), bd_e]
  refine ⟨_, rfl, x1.trans (Ex.sI rfl), ?_⟩
  rw [hI_sI_eq, ea]
  refine ⟨?_, fun k hk => ?_, fun k hk => ?_, fun k hk => ?_, fun k hk => ?_⟩
  · rw [va_ne (by omega), va_ne (by omega)]; exact hS.1
  · rw [va_ne (by omega), va_ne (by omega)]; exact hS.2.1 k hk
  · rw [va_ne (by omega), va_ne (by omega)]; exact hS.2.2.1 k hk
  · show va_up _ _ _ (0 + 9 + k) = nI (va_up (va_up (tT S) (5 * i + f) (tT S (5 * i + f) - n)) (5 * q + f) (min (tT S (5 * q + f) + n) 99) k)
    by_cases c : k = 5 * q + f
    · rw [c, show 0 + 9 + (5 * q + f) = 9 + (5 * q + f) by omega, va_eq, va_eq]
    · rw [va_ne (by omega), va_ne c]
      by_cases c2 : k = 5 * i + f
      · rw [c2, show 0 + 9 + (5 * i + f) = 9 + (5 * i + f) by omega, va_eq, va_eq]
      · rw [va_ne (by omega), va_ne c2]; exact hS.2.2.2.1 k hk
  · rw [va_ne (by omega), va_ne (by omega)]; exact hS.2.2.2.2 k hk
theorem d_lend (hN : 2000 ≤ N) : D_lend (INV N x y o J) (INV N x y o (J + 1)) N x y := by
  intro a b c d h ⟨v, w, A, M, pn, pc, P, lb, K, tn, tb, q⟩
  obtain ⟨p0, ob, pv, pm, pnm, ⟨cM, rS, rD, rR, wM⟩, pP, pK, pT⟩ := id q
  have y0 := p0.1
  have vw := ob.1
  have hW := pv.2.2.1
  have h5 := hW.1.1
  have h4 := hW.1.2.2.1
  have q2 := q.thr 0
  obtain ⟨-, -, -, pm2, -, ⟨-, rS2, -, -, wM2⟩, -⟩ := id q2
  have no : f_X10_lend N x a b c d h = some (-1, h) → f_X11_lend N y a b c d h = some (-1, sI h y 0 0) → wp (f_X10_lend N x a b c d h) (fun r h1 => hK h1 y = 10 ∧ wp (f_X11_lend N y a b c d h1) (fun r2 h2 => r = r2 ∧ INV N x y o (J + 1) h2)) := fun e1 e2 => wp2 e1 pm.1.1 e2 q2.inv
  have A1 : f_X10_lend N x a b c d h = (if yes (¬ a < 0 ∧ ¬ nI (aC A 2) ≤ a) = 0 then some ((-1 : Int32), h) else if yes (¬ b < 0 ∧ ¬ nI (aC A 2) ≤ b) = 0 then some ((-1 : Int32), h) else if yes (¬ c < 0 ∧ ¬ nI (aC A 0) ≤ c) = 0 then some ((-1 : Int32), h) else f_X10_lend N x a b c d h) := by
    by_cases c1 : ¬ a < 0 ∧ ¬ nI (aC A 2) ≤ a
    · by_cases c2 : ¬ b < 0 ∧ ¬ nI (aC A 2) ≤ b
      · by_cases c3 : ¬ c < 0 ∧ ¬ nI (aC A 0) ≤ c
        · rw [yesT c1, if_neg one0, yesT c2, if_neg one0, yesT c3, if_neg one0]
        · rw [yesT c1, if_neg one0, yesT c2, if_neg one0, yesF c3, if_pos rfl]
          unfold f_X10_lend
          rw [ck_p ob.k9, ob.R8, rq_s, ck_p pv.1.1, c_has2 pv, cl_s, yesT c1, if_neg one0, ck_p ob.k9, ob.R8, rq_s, ck_p pv.1.1, c_has2 pv, cl_s, yesT c2, if_neg one0, ck_p ob.k9, ob.R8, rq_s, ck_p pv.1.1, c_has0 pv, cl_s, yesF c3, if_pos rfl]
      · rw [yesT c1, if_neg one0, yesF c2, if_pos rfl]
        unfold f_X10_lend
        rw [ck_p ob.k9, ob.R8, rq_s, ck_p pv.1.1, c_has2 pv, cl_s, yesT c1, if_neg one0, ck_p ob.k9, ob.R8, rq_s, ck_p pv.1.1, c_has2 pv, cl_s, yesF c2, if_pos rfl]
    · rw [yesF c1, if_pos rfl]
      unfold f_X10_lend
      rw [ck_p ob.k9, ob.R8, rq_s, ck_p pv.1.1, c_has2 pv, cl_s, yesF c1, if_pos rfl]
  by_cases c1 : ¬ a < 0 ∧ ¬ nI (aC A 2) ≤ a
  rotate_left
  · refine no (by rw [A1, yesF c1, if_pos rfl]) ?_
    unfold f_X11_lend
    rw [ck_p pm.1.1, bd_e, ck_p pm2.1.1, m_isHouse pm2.1 pm2.2.1, cl_s, yesF c1, if_pos rfl]
  by_cases c2 : ¬ b < 0 ∧ ¬ nI (aC A 2) ≤ b
  rotate_left
  · refine no (by rw [A1, yesT c1, if_neg one0, yesF c2, if_pos rfl]) ?_
    unfold f_X11_lend
    rw [ck_p pm.1.1, bd_e, ck_p pm2.1.1, m_isHouse pm2.1 pm2.2.1, cl_s, yesT c1, if_neg one0, ck_p pm2.1.1, m_isHouse pm2.1 pm2.2.1, cl_s, yesF c2, if_pos rfl]
  obtain ⟨i, hi, rfl⟩ := told (by omega) c1
  obtain ⟨p, hp, rfl⟩ := told (by omega) c2
  have ne : nI i = nI p ↔ i = p := nI_eq (by omega) (by omega)
  by_cases c3 : ¬ c < 0 ∧ ¬ nI (aC A 0) ≤ c
  rotate_left
  · refine no (by rw [A1, yesT c1, if_neg one0, yesT c2, if_neg one0, yesF c3, if_pos rfl]) ?_
    unfold f_X11_lend
    rw [ck_p pm.1.1, bd_e, ck_p pm2.1.1, m_isHouse pm2.1 pm2.2.1, cl_s, yesT c1, if_neg one0, ck_p pm2.1.1, m_isHouse pm2.1 pm2.2.1, cl_s, yesT c2, if_neg one0, ite_i ne]
    by_cases e : i = p
    · rw [if_pos e]
    · rw [if_neg e, ck_p pm2.1.1, m_isFuel pm2.1 pm2.2.1, cl_s, yesF c3, if_pos rfl]
  obtain ⟨f, hf, rfl⟩ := told (by omega) c3
  have ht := wM.1.2.2.1 (5 * i + f) (by omega)
  have ht2 := wM.1.2.2.1 (5 * p + f) (by omega)
  have ch := c_canHand (N := N) ob.st cM.1 wM.1 (i := i) (o := p) (f := f) (by omega) (by omega) (by omega) d
  have v1 := rS2.2.2.2.1 (5 * i + f) (by omega)
  rw [Nat.zero_add] at v1
  have j1 : inb (nI (9 + (5 * i + f))) 32 := nI_ix (by omega) (by omega)
  have k1 : ix (nI (9 + (5 * i + f))) = 9 + (5 * i + f) := ix_nI (by omega)
  by_cases cc : p ≠ i ∧ 0 < d ∧ d ≤ nI (tT M.1 (5 * i + f))
  rotate_left
  · refine no ?_ ?_
    · unfold f_X10_lend
      rw [ck_p ob.k9, ob.R8, rq_s, ck_p pv.1.1, c_has2 pv, cl_s, yesT c1, if_neg one0, ck_p ob.k9, ob.R8, rq_s, ck_p pv.1.1, c_has2 pv, cl_s, yesT c2, if_neg one0, ck_p ob.k9, ob.R8, rq_s, ck_p pv.1.1, c_has0 pv, cl_s, yesT c3, if_neg one0, ck_p ob.k9, ob.R1, rq_s, ck_p ob.mt.1, ob.mt.2.1.1, rq_s, ck_p ob.st.1, ch, cl_s, yesF cc, if_pos rfl]
    · unfold f_X11_lend
      rw [ck_p pm.1.1, bd_e, ck_p pm2.1.1, m_isHouse pm2.1 pm2.2.1, cl_s, yesT c1, if_neg one0, ck_p pm2.1.1, m_isHouse pm2.1 pm2.2.1, cl_s, yesT c2, if_neg one0, ite_i ne]
      by_cases e : i = p
      · rw [if_pos e]
      · rw [if_neg e, ck_p pm2.1.1, m_isFuel pm2.1 pm2.2.1, cl_s, yesT c3, if_neg one0, m_within, cl_s]
        by_cases w1 : ¬ d < 1 ∧ ¬ (99 : Int32) < d
        · rw [yesT w1, if_neg one0, ck_p pm2.1.1, mR_s pm2.1, rq_s, m_ix, ck_p (mK_s pm2.1), mN_s pm2.1, ck_p j1, k1, v1, if_neg (fun z => cc ⟨fun z2 => e z2.symm, ?_, z⟩)]
          have := w1.1
          rw [fa_lt, show (1 : Int32).toInt = 1 by decide] at this
          rw [fa_lt, show (0 : Int32).toInt = 0 by decide]
          omega
        · rw [yesF w1, if_pos rfl]
  obtain ⟨cc1, cc2, cc3⟩ := cc
  obtain ⟨m, hm, rfl⟩ : ∃ m, m < 2 ^ 31 ∧ d = nI m := nI_of (fa_of_lt cc2).2.2.1
  have hm0 : 0 < m := by
    have := cc2
    rw [show (0 : Int32) = nI 0 from rfl, nI_ltI (by omega) hm] at this
    exact this
  have hm1 : m ≤ tT M.1 (5 * i + f) := by
    rw [nI_leI hm (by omega)] at cc3
    exact cc3
  have hpn := pP.1.1
  obtain ⟨h1, r1, e1, ex, cs1⟩ := c_remember (N := N) ob cM.1 hpn pP.1.2.1 pP.1.2.2.1 pP.1.2.2.2.1
  have ob1 := ob.shp (x := x) e1.shp
  have cM1 := cM.1.ex e1 (fun z z1 z2 z3 => by unfold inS at z3; omega)
  obtain ⟨h2, r2, e2, cs2⟩ := c_hand (N := N) ob1.st cM1 wM.1 (i := i) (o := p) (f := f) (m := m) (by omega) (by omega) (by omega) (by omega)
  rw [if_pos ⟨cc1, hm0, hm1⟩] at cs2
  have ob2 := ob1.shp (x := x) e2.shp
  have t2 : Ex (fun z => z < y) h h2 := (e1.mono (fun z hz => by unfold inS at hz; omega)).trans (e2.mono (fun z hz => by unfold inS at hz; omega))
  obtain ⟨pmh, rSh, k54, rPh, -, -⟩ := ref_at q t2 (fun z hz => hz)
  have m2 := pmh.1
  obtain ⟨h3, s1, s2, s3, s4, s5⟩ := m_keeps (N := N) (by omega) m2 pP.1.2.1 k54 rSh rPh
  have pm3 := pmh.ex s2 (fun z z1 z2 z3 => by omega)
  have rS3 := rSh.ex s2 (by omega)
  obtain ⟨h4', u1, u2, u3⟩ := m_lends (N := N) pm3.1 rS3 (i := i) (q := p) (f := f) (n := m) (by omega) (by omega) (by omega) cc1 hm1 (by omega)
  have pm4 := pm3.ex u2 (fun z z1 z2 z3 => by omega)
  have ky : hK h2 y = 10 := by rw [e2.1.1, e1.1.1]; exact pm.1.1
  have ev : tT (sHand M.1 i p f m) (5 * p + f) = min (tT M.1 (5 * p + f) + m) 99 := va_eq
  have v4 := u3.2.2.2.1 (5 * p + f) (by omega)
  rw [Nat.zero_add] at v4
  have j2 : inb (nI (9 + (5 * p + f))) 32 := nI_ix (by omega) (by omega)
  have k2 : ix (nI (9 + (5 * p + f))) = 9 + (5 * p + f) := ix_nI (by omega)
  have v1h := rSh.2.2.2.1 (5 * i + f) (by omega)
  rw [Nat.zero_add] at v1h
  refine wp2 (r := nI (tT (sHand M.1 i p f m) (5 * p + f))) (h1 := h2) (h2 := h4') ?_ ky ?_ (two_fin q e1 ex cs1 e2 cs2 s2 s3 s4 s5 u2 u3 (wM.1.hand hi hp hf h5 h4))
  · unfold f_X10_lend
    rw [ck_p ob.k9, ob.R8, rq_s, ck_p pv.1.1, c_has2 pv, cl_s, yesT c1, if_neg one0, ck_p ob.k9, ob.R8, rq_s, ck_p pv.1.1, c_has2 pv, cl_s, yesT c2, if_neg one0, ck_p ob.k9, ob.R8, rq_s, ck_p pv.1.1, c_has0 pv, cl_s, yesT c3, if_neg one0, ck_p ob.k9, ob.R1, rq_s, ck_p ob.mt.1, ob.mt.2.1.1, rq_s, ck_p ob.st.1, ch, cl_s, yesT ⟨cc1, cc2, cc3⟩, if_neg one0, ck_p ob.k9, r1, cl_s, ck_p ob1.k9, ob1.R1, rq_s, ck_p ob1.mt.1, ob1.mt.2.1.1, rq_s, ck_p ob1.st.1, r2, cl_s, ck_p ob2.k9, ob2.R1, rq_s, ck_p ob2.mt.1, ob2.mt.2.1.1, rq_s, ck_p ob2.st.1, c_stockOf ob2.st cs2 (by omega) (by omega), cl_s]
  · unfold f_X11_lend
    rw [ck_p ky, bd_e, ck_p m2.1, m_isHouse m2 pmh.2.1, cl_s, yesT c1, if_neg one0, ck_p m2.1, m_isHouse m2 pmh.2.1, cl_s, yesT c2, if_neg one0, ite_i ne, if_neg (fun z => cc1 z.symm), ck_p m2.1, m_isFuel m2 pmh.2.1, cl_s, yesT c3, if_neg one0, m_within, cl_s, yesT ⟨nI_nlt (b := 1) (by omega) (by omega), nI_nlt (a := 99) (by omega) (by omega)⟩, if_neg one0, ck_p m2.1, mR_s m2, rq_s, m_ix, ck_p (mK_s m2), mN_s m2, ck_p j1, k1, v1h, if_pos (nI_le hm1 (by omega)), s1, cl_s, ck_p pm3.1.1, u1, cl_s, ck_p pm4.1.1, mR_s pm4.1, rq_s, m_ix, ck_p (mK_s pm4.1), mN_s pm4.1, ck_p j2, k2, v4]
end DV
