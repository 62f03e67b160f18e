/-! Duties: mark, blur, given. -/
theorem or_bit : ∀ X, X < 16 → ∀ i, i < 4 → (nI X ||| ((1 : Int32) <<< (nI i &&& 31))) = nI (X ||| 2 ^ i) := by decide +kernel
theorem bts_set {p : Nat → Bool} {i : Nat} (hi : i < 4) : bts p 4 ||| 2 ^ i = bts (va_up p i true) 4 := by
  apply Nat.eq_of_testBit_eq
  intro j
  rw [Nat.testBit_or, bts_tb, bts_tb, Nat.testBit_two_pow]
  unfold va_up
  by_cases c : j = i
  · subst c
    simp [hi]
  · simp [c, Ne.symm c]
section DY5
variable {N x y o J : Nat}
theorem d_mark (hN2 : 2000 ≤ N) : D_mark (INV N x y o J) (INV N x y o (J + 1)) N x y := by
  intro a b hb h ⟨v, w, A, M, pn, pc, P, lb, K, tn, tb, q⟩
  obtain ⟨p0, ob, pv, pm, pnm, ⟨cM, rS, rD, rR, wM⟩, pP, pK, pT⟩ := id q
  have y0 := p0.1
  have vw := ob.1
  have q2 := q.thr 0
  obtain ⟨-, -, -, pm2, -, -, -, pK2, -⟩ := id q2
  have no : f_X10_mark N x a b h = some (0, h) → f_X11_mark N y a b h = some (0, sI h y 0 0) → wp (f_X10_mark N x a b h) (fun r h1 => hK h1 y = 10 ∧ wp (f_X11_mark N y a b h1) (fun r2 h2 => r = r2 ∧ INV N x y o (J + 1) h2)) := fun e1 e2 => wp2 e1 pm.1.1 e2 q2.inv
  by_cases n : a < 0
  · refine no (by unfold f_X10_mark; rw [if_pos n]) ?_
    unfold f_X11_mark
    rw [ck_p pm.1.1, bd_e, m_within, cl_s, yesF (fun z => z.1 n), if_pos rfl]
  obtain ⟨i, hi, rfl⟩ := nI_of n
  by_cases k4 : 4 ≤ i
  · refine no (by unfold f_X10_mark; rw [if_neg n, if_pos (show (4 : Int32) ≤ nI i from nI_le (a := 4) k4 hi)]) ?_
    unfold f_X11_mark
    rw [ck_p pm.1.1, bd_e, m_within, cl_s, yesF (fun z => z.2 (nI_lt (a := 3) (by omega) hi)), if_pos rfl]
  have hi4 : i < 4 := by omega
  have lt := bts_lt lb 4
  have wy : (¬ nI i < (0 : Int32) ∧ ¬ (3 : Int32) < nI i) := ⟨n, nI_nlt (a := 3) (by omega) (by decide)⟩
  have n4 : ¬ (4 : Int32) ≤ nI i := nI_ge (b := 4) hi4 (by decide)
  have e1i : (1 : Int32) + nI i = nI (1 + i) := nI_add 1 i
  have e32 : (32 : Int32) * nI i = nI (32 * i) := pk_mul 32 i
  have i4 : inb (nI i) 4 := nI_ix hi4 (by decide)
  have xi : ix (nI i) = i := ix_nI hi
  obtain ⟨mk1, mk2⟩ := ob.mk.2 i hi4
  have dM := wM.2.1.1
  have dR := wM.2.2.1
  by_cases b0 : b = 0
  · -- a mark is laid
    subst b0
    obtain ⟨h1, r1, x1, c1⟩ := c_mcopy (N := N) (d := x + 79 + 11 * i) (s := x + 3) (by omega) mk2 ob.mt cM dM dR
    have ob1 := ob.shp (x := x) x1.shp
    have ex1 : hI h1 x = hI h x := x1.2.2.2 x (by omega)
    have ez : Ex (fun z => z = x) h1 (sI h1 x 12 (nI (bts (va_up lb i true) 4))) := Ex.sI rfl
    have z10 : hI (sI h1 x 12 (nI (bts (va_up lb i true) 4))) x = va_up (hI h x) 12 (nI (bts (va_up lb i true) 4)) := by rw [hI_sI_eq, ex1]
    have cls : f_X10_mark N x (nI i) 0 h = some (1, sI h1 x 12 (nI (bts (va_up lb i true) 4))) := by
      unfold f_X10_mark f_X10_mark_26
      rw [if_neg n, if_neg n4, if_pos rfl, if_pos rfl, ck_p ob.k9, ob.R2, rq_s, ck_p ob.mk.1.1, ob.mk.1.2, ck_p i4, xi, mk1, rq_s, ob.R1, rq_s, ck_p mk2.1, r1, cl_s, ck_p ob1.k9, ex1, pK.1, or_bit _ lt i hi4, bts_set hi4, bd_e]
    generalize sI h1 x 12 (nI (bts (va_up lb i true) 4)) = h2 at ez z10 cls
    have t2 : Ex (fun z => z < y) h h2 := (x1.mono (Q := fun z => z < y) (fun z hz => by omega)).trans (ez.mono (Q := fun z => z < y) (fun z hz => by omega))
    obtain ⟨pmh, rSh, k54, rPh, ey1, -⟩ := ref_at q t2 (fun z hz => hz)
    have mh := pmh.1
    have ky : hK h2 y = 10 := by rw [t2.1.1]; exact pm.1.1
    have nh : ∀ k, 1 ≤ k → hI (sI h2 y 0 0) (y + k) = hI h (y + k) := fun k hk => by rw [hI_sI_ne (by omega), t2.2.2.2 (y + k) (by omega)]
    have yh : Ex (fun z => z = y) h2 (sI h2 y 0 0) := Ex.sI rfl
    have el : Ex (fun z => z = y + 41) (sI h2 y 0 0) (sI (sI h2 y 0 0) (y + 41) i 1) := Ex.sI rfl
    have vl : hI (sI (sI h2 y 0 0) (y + 41) i 1) (y + 41) = va_up (hI h (y + 41)) i 1 := by rw [hI_sI_eq, nh 41 (by decide)]
    have ref1 : f_X11_mark N y (nI i) 0 h2 = f_X11_mark_59 N (nI (1 + i)) y (nI i) 0 0 (sI (sI h2 y 0 0) (y + 41) i 1) := by
      unfold f_X11_mark f_X11_mark_29 f_X11_mark_47
      rw [ck_p ky, bd_e, m_within, cl_s, yesT wy, if_neg one0, if_pos rfl, ck_p mh.1, mR_isLaid mh, rq_s, ck_p (mK_isLaid mh), mN_isLaid mh, ck_p i4, xi, show (1 : Int32) &&& 1 = 1 by decide, bd_e, if_pos rfl, if_pos rfl, e1i]
    have g0 := fun k (hk : 1 ≤ k) (h41 : k ≠ 41) => (hI_sI_ne (h := sI h2 y 0 0) (a := y + 41) (z := y + k) (k := i) (v := 1) (by omega)).trans (nh k hk)
    generalize sI (sI h2 y 0 0) (y + 41) i 1 = hl at el vl ref1 g0
    have ml := mh.sm el.1
    obtain ⟨ha, a1, a2, a3, a4⟩ := m_laysLines (N := N) (by omega) (h := hl) (f := 0) (t := 1 + i) (by omega) (by omega) (by omega) ml
    have a1 : f_X11_laysLines N y 0 (nI (1 + i)) hl = _ := a1
    have ma := ml.sm a2.1
    obtain ⟨hb, b1, b2, b3, b4⟩ := m_laysSeen (N := N) (by omega) (h := ha) (f := 0) (t := 1 + i) (by omega) (by omega) (by omega) ma
    have b1 : f_X11_laysSeen N y 0 (nI (1 + i)) ha = _ := b1
    have mb := ma.sm b2.1
    obtain ⟨hc, d1, d2, d3, d4⟩ := m_copies (N := N) (by omega) (h := hb) (a := y + 37) (c := y + 39) (b := 0) (e := 32 * i) (na := 32) (nc := 128) (by omega) (by omega) (by omega) (by decide) (by decide) ⟨mK_s mb, mN_s mb⟩ ⟨mK_marked mb, mN_marked mb⟩
    have d1 : f_X11_copies N (y + 37) 0 (y + 39) (nI (32 * i)) hb = _ := d1
    refine wp2 (h2 := hc) cls ky ?_ ?_
    · rw [ref1]
      unfold f_X11_mark_59
      rw [ck_p ml.1, a1, cl_s, ck_p ma.1, b1, cl_s, if_pos rfl, ck_p mb.1, mR_s mb, rq_s, mR_marked mb, rq_s, e32, d1, cl_s]
    have T : Ex (fun z => z = x ∨ (x + 79 + 11 * i ≤ z ∧ z < x + 79 + 11 * i + 11) ∨ z = y ∨ (y + 27 ≤ z ∧ z ≤ y + 36) ∨ z = y + 39 ∨ z = y + 41) h hc := ((((((x1.mono (Q := fun z => z = x ∨ (x + 79 + 11 * i ≤ z ∧ z < x + 79 + 11 * i + 11) ∨ z = y ∨ (y + 27 ≤ z ∧ z ≤ y + 36) ∨ z = y + 39 ∨ z = y + 41) (fun z hz => by omega)).trans (ez.mono (Q := fun z => z = x ∨ (x + 79 + 11 * i ≤ z ∧ z < x + 79 + 11 * i + 11) ∨ z = y ∨ (y + 27 ≤ z ∧ z ≤ y + 36) ∨ z = y + 39 ∨ z = y + 41) (fun z hz => by omega))).trans (yh.mono (Q := fun z => z = x ∨ (x + 79 + 11 * i ≤ z ∧ z < x + 79 + 11 * i + 11) ∨ z = y ∨ (y + 27 ≤ z ∧ z ≤ y + 36) ∨ z = y + 39 ∨ z = y + 41) (fun z hz => by omega))).trans (el.mono (Q := fun z => z = x ∨ (x + 79 + 11 * i ≤ z ∧ z < x + 79 + 11 * i + 11) ∨ z = y ∨ (y + 27 ≤ z ∧ z ≤ y + 36) ∨ z = y + 39 ∨ z = y + 41) (fun z hz => by omega))).trans (a2.mono (Q := fun z => z = x ∨ (x + 79 + 11 * i ≤ z ∧ z < x + 79 + 11 * i + 11) ∨ z = y ∨ (y + 27 ≤ z ∧ z ≤ y + 36) ∨ z = y + 39 ∨ z = y + 41) (fun z hz => by omega))).trans (b2.mono (Q := fun z => z = x ∨ (x + 79 + 11 * i ≤ z ∧ z < x + 79 + 11 * i + 11) ∨ z = y ∨ (y + 27 ≤ z ∧ z ≤ y + 36) ∨ z = y + 39 ∨ z = y + 41) (fun z hz => by omega))).trans (d2.mono (Q := fun z => z = x ∨ (x + 79 + 11 * i ≤ z ∧ z < x + 79 + 11 * i + 11) ∨ z = y ∨ (y + 27 ≤ z ∧ z ≤ y + 36) ∨ z = y + 39 ∨ z = y + 41) (fun z hz => by omega))
    have kk : Kx x (fun z => ¬ (z = x ∨ (x + 79 + 11 * i ≤ z ∧ z < x + 79 + 11 * i + 11) ∨ z = y ∨ (y + 27 ≤ z ∧ z ≤ y + 36) ∨ z = y + 39 ∨ z = y + 41)) h hc := T.kx (fun z hz => hz)
    have ty : Ex (fun z => y ≤ z) h2 hc := ((((yh.mono (Q := fun z => y ≤ z) (fun z hz => by omega)).trans (el.mono (Q := fun z => y ≤ z) (fun z hz => by omega))).trans (a2.mono (Q := fun z => y ≤ z) (fun z hz => by omega))).trans (b2.mono (Q := fun z => y ≤ z) (fun z hz => by omega))).trans (d2.mono (Q := fun z => y ≤ z) (fun z hz => by omega))
    have exc : hI hc x = va_up (hI h x) 12 (nI (bts (va_up lb i true) 4)) := by rw [ty.2.2.2 x (by omega), z10]
    have eyc : hI hc y = hI (sI h2 y 0 0) y := by rw [d2.2.2.2 y (by omega), b2.2.2.2 y (by omega), a2.2.2.2 y (by omega), el.2.2.2 y (by omega)]
    -- lines and reads of all slots
    have rdo : ∀ u D, u ≠ 1 + i → D.1 ≤ 40 → RD h y u D → RD hc y u D := fun u D hu hD p => by
      have p0 : RD hl y u D := by
        unfold RD at p ⊢
        rw [g0 27 (by decide) (by decide), g0 28 (by decide) (by decide), g0 29 (by decide) (by decide), g0 30 (by decide) (by decide), g0 31 (by decide) (by decide), g0 32 (by decide) (by decide)]
        exact p
      have p1 := p0.oth hu a3 a4 hD
      unfold RD at p1 ⊢
      have e : ∀ k, 27 ≤ k → k ≤ 32 → hI hc (y + k) = hI ha (y + k) := fun k k1 k2 => by rw [d2.2.2.2 _ (by omega), b2.2.2.2 _ (by omega)]
      rw [e 27 (by decide) (by decide), e 28 (by decide) (by decide), e 29 (by decide) (by decide), e 30 (by decide) (by decide), e 31 (by decide) (by decide), e 32 (by decide) (by decide)]
      exact p1
    have rdl : RD hc y (1 + i) M.2.1 := by
      have p0 : RD hl y 0 M.2.1 := by
        have p := rD
        unfold RD at p ⊢
        rw [g0 27 (by decide) (by decide), g0 28 (by decide) (by decide), g0 29 (by decide) (by decide), g0 30 (by decide) (by decide), g0 31 (by decide) (by decide), g0 32 (by decide) (by decide)]
        exact p
      have p1 := p0.lay a3 a4 dM
      unfold RD at p1 ⊢
      have e : ∀ k, 27 ≤ k → k ≤ 32 → hI hc (y + k) = hI ha (y + k) := fun k k1 k2 => by rw [d2.2.2.2 _ (by omega), b2.2.2.2 _ (by omega)]
      rw [e 27 (by decide) (by decide), e 28 (by decide) (by decide), e 29 (by decide) (by decide), e 30 (by decide) (by decide), e 31 (by decide) (by decide), e 32 (by decide) (by decide)]
      exact p1
    have gs : ∀ k, 33 ≤ k → k ≤ 36 → hI ha (y + k) = hI h (y + k) := fun k k1 k2 => by rw [a2.2.2.2 _ (by omega)]; exact g0 k (by omega) (by omega)
    have gt : ∀ k, 33 ≤ k → k ≤ 36 → hI hc (y + k) = hI hb (y + k) := fun k k1 k2 => by rw [d2.2.2.2 _ (by omega)]
    have rro : ∀ u R, u ≠ 1 + i → R.1 ≤ 8 → RR h y u R → RR hc y u R := fun u R hu hR p => by
      have p0 : RR ha y u R := by
        unfold RR at p ⊢
        rw [gs 33 (by decide) (by decide), gs 34 (by decide) (by decide), gs 35 (by decide) (by decide), gs 36 (by decide) (by decide)]
        exact p
      have p1 := p0.oth hu b3 b4 hR
      unfold RR at p1 ⊢
      rw [gt 33 (by decide) (by decide), gt 34 (by decide) (by decide), gt 35 (by decide) (by decide), gt 36 (by decide) (by decide)]
      exact p1
    have rrl : RR hc y (1 + i) M.2.2 := by
      have p0 : RR ha y 0 M.2.2 := by
        have p := rR
        unfold RR at p ⊢
        rw [gs 33 (by decide) (by decide), gs 34 (by decide) (by decide), gs 35 (by decide) (by decide), gs 36 (by decide) (by decide)]
        exact p
      have p1 := p0.lay b3 b4 dR
      unfold RR at p1 ⊢
      rw [gt 33 (by decide) (by decide), gt 34 (by decide) (by decide), gt 35 (by decide) (by decide), gt 36 (by decide) (by decide)]
      exact p1
    have sb : hI hb (y + 37) = hI h (y + 37) := by rw [b2.2.2.2 _ (by omega), a2.2.2.2 _ (by omega)]; exact g0 37 (by decide) (by decide)
    have rsl : RS (hI hc (y + 39)) (32 * i) M.1 := by
      refine rS.cp (fun k hk => ?_)
      rw [d3 k hk, sb]
    have e39 : hI hb (y + 39) = hI h (y + 39) := by rw [b2.2.2.2 _ (by omega), a2.2.2.2 _ (by omega)]; exact g0 39 (by decide) (by decide)
    have e41 : hI hc (y + 41) = va_up (hI h (y + 41)) i 1 := by rw [d2.2.2.2 _ (by omega), b2.2.2.2 _ (by omega), a2.2.2.2 _ (by omega), vl]
    refine ⟨v, w, A, M, pn, pc, P, va_up lb i true, va_up K i M, tn, tb, INVq.up (Nat.le_succ J) (INVq.step (kk.mono (fun z hz => by unfold Kv at hz; omega)) q ⟨cM.kx kk (fun z z1 z2 => by omega), rS.kx kk (by omega), rdo 0 _ (by omega) dM rD, rro 0 _ (by omega) dR rR, wM⟩ (pP.kx kk (fun k hk => by rw [exc, va_ne (by omega)]) (by rw [eyc, k54]; exact pP.1.2.2.2.2.symm) (fun z hz => by omega)) ⟨by rw [exc, va_eq], fun k hk => ?_⟩ (pT.kx kk (by rw [T.2.2.2 (x + 1) (by omega)]) (by rw [eyc, ey1]; exact pT.2.2.1.symm) (fun z hz => by omega)))⟩
    obtain ⟨s1, s2⟩ := pK.2 k hk
    by_cases c : k = i
    · subst c
      rw [e41, va_eq, va_eq, va_eq, if_pos rfl]
      refine ⟨rfl, fun _ => ⟨?_, rsl, rdl, rrl, wM⟩⟩
      have kc : Kx x (fun z => x + 79 + 11 * k ≤ z ∧ z < x + 79 + 11 * k + 11) h1 hc := (ez.kx (Q := fun z => x + 79 + 11 * k ≤ z ∧ z < x + 79 + 11 * k + 11) (fun z hz => by omega)).trans (ty.kx (Q := fun z => x + 79 + 11 * k ≤ z ∧ z < x + 79 + 11 * k + 11) (fun z hz => by omega))
      exact c1.kx kc (fun z z1 z2 => ⟨z1, z2⟩)
    · rw [e41, va_ne c, va_ne c, va_ne c]
      refine ⟨s1, fun l => ?_⟩
      obtain ⟨t1, t3, t5, t6, t7⟩ := s2 l
      refine ⟨t1.kx kk (fun z z1 z2 => by omega), ?_, rdo _ _ (by omega) t7.2.1.1 t5, rro _ _ (by omega) t7.2.2.1 t6, t7⟩
      refine t3.cp (fun j hj => ?_)
      rw [d4 _ (by omega), e39]
  · -- a mark is gone back to
    have b1 : b = 1 := hb.resolve_left b0
    subst b1
    have lay := pK.2 i hi4
    have lay2 := pK2.2 i hi4
    by_cases l : lb i = true
    rotate_left
    · have tbf : (bts lb 4).testBit i = false := by rw [bts_tb]; simp [l]
      refine no ?_ ?_
      · unfold f_X10_mark
        rw [if_neg n, if_neg n4, if_neg one0, ck_p ob.k9, pK.1, if_pos ((bt_sh _ lt i hi4).mpr tbf)]
      · unfold f_X11_mark
        rw [ck_p pm.1.1, bd_e, m_within, cl_s, yesT wy, if_neg one0, if_neg one0, ck_p pm2.1.1, mR_isLaid pm2.1, rq_s, ck_p (mK_isLaid pm2.1), mN_isLaid pm2.1, ck_p i4, xi, lay2.1, if_neg l, if_pos rfl]
    have tbt : (bts lb 4).testBit i = true := by rw [bts_tb]; simp [l, hi4]
    obtain ⟨t1, t2', t3, t4, t5⟩ := lay.2 l
    obtain ⟨h1, r1, x1, c1⟩ := c_mcopy (N := N) (d := x + 3) (s := x + 79 + 11 * i) (by omega) ob.mt mk2 t1 t5.2.1.1 t5.2.2.1
    have ob1 := ob.shp (x := x) x1.shp
    have ex1 : hI h1 x = hI h x := x1.2.2.2 x (by omega)
    have ez : Ex (fun z => z = x) h1 (sI h1 x 14 0) := Ex.sI rfl
    have z12 : hI (sI h1 x 14 0) x = va_up (hI h x) 14 0 := by rw [hI_sI_eq, ex1]
    have cls : f_X10_mark N x (nI i) 1 h = some (1, sI h1 x 14 0) := by
      unfold f_X10_mark f_X10_mark_26
      rw [if_neg n, if_neg n4, if_neg one0, ck_p ob.k9, pK.1, if_neg (fun z => by have := (bt_sh _ lt i hi4).mp z; rw [tbt] at this; exact absurd this (by decide)), if_neg one0, ck_p ob.k9, ob.R1, rq_s, ob.R2, rq_s, ck_p ob.mk.1.1, ob.mk.1.2, ck_p i4, xi, mk1, rq_s, ck_p ob.mt.1, r1, cl_s, ck_p ob1.k9, bd_e]
    generalize sI h1 x 14 0 = h2 at ez z12 cls
    have tt : Ex (fun z => z < y) h h2 := (x1.mono (Q := fun z => z < y) (fun z hz => by omega)).trans (ez.mono (Q := fun z => z < y) (fun z hz => by omega))
    obtain ⟨pmh, rSh, k54, rPh, ey1, -⟩ := ref_at q tt (fun z hz => hz)
    have mh := pmh.1
    have ky : hK h2 y = 10 := by rw [tt.1.1]; exact pm.1.1
    have nh : ∀ k, 1 ≤ k → hI (sI h2 y 0 0) (y + k) = hI h (y + k) := fun k hk => by rw [hI_sI_ne (by omega), tt.2.2.2 (y + k) (by omega)]
    have yh : Ex (fun z => z = y) h2 (sI h2 y 0 0) := Ex.sI rfl
    have el : Ex (fun z => z = y + 41) (sI h2 y 0 0) (sI (sI h2 y 0 0) (y + 41) i 1) := Ex.sI rfl
    have vl : hI (sI (sI h2 y 0 0) (y + 41) i 1) (y + 41) = va_up (hI h (y + 41)) i 1 := by rw [hI_sI_eq, nh 41 (by decide)]
    have ref1 : f_X11_mark N y (nI i) 1 h2 = f_X11_mark_59 N 0 y (nI i) 1 (nI (1 + i)) (sI (sI h2 y 0 0) (y + 41) i 1) := by
      unfold f_X11_mark f_X11_mark_29 f_X11_mark_47
      rw [ck_p ky, bd_e, m_within, cl_s, yesT wy, if_neg one0, if_neg one0, ck_p mh.1, mR_isLaid mh, rq_s, ck_p (mK_isLaid mh), mN_isLaid mh, ck_p i4, xi, nh 41 (by decide), lay.1, if_pos l, if_neg one0, ck_p mh.1, rq_s, ck_p (mK_isLaid mh), mN_isLaid mh, ck_p i4, show (1 : Int32) &&& 1 = 1 by decide, bd_e, if_neg one0, if_neg one0, e1i]
    have g0 := fun k (hk : 1 ≤ k) (h41 : k ≠ 41) => (hI_sI_ne (h := sI h2 y 0 0) (a := y + 41) (z := y + k) (k := i) (v := 1) (by omega)).trans (nh k hk)
    generalize sI (sI h2 y 0 0) (y + 41) i 1 = hl at el vl ref1 g0
    have ml := mh.sm el.1
    obtain ⟨ha, a1, a2, a3, a4⟩ := m_laysLines (N := N) (by omega) (h := hl) (f := 1 + i) (t := 0) (by omega) (by omega) (by omega) ml
    have a1 : f_X11_laysLines N y (nI (1 + i)) 0 hl = _ := a1
    have ma := ml.sm a2.1
    obtain ⟨hb, b1, b2, b3, b4⟩ := m_laysSeen (N := N) (by omega) (h := ha) (f := 1 + i) (t := 0) (by omega) (by omega) (by omega) ma
    have b1 : f_X11_laysSeen N y (nI (1 + i)) 0 ha = _ := b1
    have mb := ma.sm b2.1
    obtain ⟨hc, d1, d2, d3, d4⟩ := m_copies (N := N) (by omega) (h := hb) (a := y + 39) (c := y + 37) (b := 32 * i) (e := 0) (na := 128) (nc := 32) (by omega) (by omega) (by omega) (by decide) (by decide) ⟨mK_marked mb, mN_marked mb⟩ ⟨mK_s mb, mN_s mb⟩
    have d1 : f_X11_copies N (y + 39) (nI (32 * i)) (y + 37) 0 hb = _ := d1
    have mc := mb.sm d2.1
    have ref2 : f_X11_mark N y (nI i) 1 h2 = some (1, sI hc y 54 0) := by
      rw [ref1]
      unfold f_X11_mark_59
      rw [ck_p ml.1, a1, cl_s, ck_p ma.1, b1, cl_s, if_neg one0, ck_p mb.1, mR_marked mb, rq_s, mR_s mb, rq_s, e32, d1, cl_s, ck_p mc.1, bd_e]
    have e5 : Ex (fun z => z = y) hc (sI hc y 54 0) := Ex.sI rfl
    have v54 : hI (sI hc y 54 0) y = va_up (hI hc y) 54 0 := hI_sI_eq
    generalize sI hc y 54 0 = hd at e5 v54 ref2
    refine wp2 (h2 := hd) cls ky ref2 ?_
    have T : Ex (fun z => z = x ∨ (x + 3 ≤ z ∧ z < x + 14) ∨ z = y ∨ (y + 27 ≤ z ∧ z ≤ y + 37) ∨ z = y + 41) h hd := (((((((x1.mono (Q := fun z => z = x ∨ (x + 3 ≤ z ∧ z < x + 14) ∨ z = y ∨ (y + 27 ≤ z ∧ z ≤ y + 37) ∨ z = y + 41) (fun z hz => by omega)).trans (ez.mono (Q := fun z => z = x ∨ (x + 3 ≤ z ∧ z < x + 14) ∨ z = y ∨ (y + 27 ≤ z ∧ z ≤ y + 37) ∨ z = y + 41) (fun z hz => by omega))).trans (yh.mono (Q := fun z => z = x ∨ (x + 3 ≤ z ∧ z < x + 14) ∨ z = y ∨ (y + 27 ≤ z ∧ z ≤ y + 37) ∨ z = y + 41) (fun z hz => by omega))).trans (el.mono (Q := fun z => z = x ∨ (x + 3 ≤ z ∧ z < x + 14) ∨ z = y ∨ (y + 27 ≤ z ∧ z ≤ y + 37) ∨ z = y + 41) (fun z hz => by omega))).trans (a2.mono (Q := fun z => z = x ∨ (x + 3 ≤ z ∧ z < x + 14) ∨ z = y ∨ (y + 27 ≤ z ∧ z ≤ y + 37) ∨ z = y + 41) (fun z hz => by omega))).trans (b2.mono (Q := fun z => z = x ∨ (x + 3 ≤ z ∧ z < x + 14) ∨ z = y ∨ (y + 27 ≤ z ∧ z ≤ y + 37) ∨ z = y + 41) (fun z hz => by omega))).trans (d2.mono (Q := fun z => z = x ∨ (x + 3 ≤ z ∧ z < x + 14) ∨ z = y ∨ (y + 27 ≤ z ∧ z ≤ y + 37) ∨ z = y + 41) (fun z hz => by omega))).trans (e5.mono (Q := fun z => z = x ∨ (x + 3 ≤ z ∧ z < x + 14) ∨ z = y ∨ (y + 27 ≤ z ∧ z ≤ y + 37) ∨ z = y + 41) (fun z hz => by omega))
    have kk : Kx x (fun z => ¬ (z = x ∨ (x + 3 ≤ z ∧ z < x + 14) ∨ z = y ∨ (y + 27 ≤ z ∧ z ≤ y + 37) ∨ z = y + 41)) h hd := T.kx (fun z hz => hz)
    have ty : Ex (fun z => y ≤ z) h2 hd := (((((yh.mono (Q := fun z => y ≤ z) (fun z hz => by omega)).trans (el.mono (Q := fun z => y ≤ z) (fun z hz => by omega))).trans (a2.mono (Q := fun z => y ≤ z) (fun z hz => by omega))).trans (b2.mono (Q := fun z => y ≤ z) (fun z hz => by omega))).trans (d2.mono (Q := fun z => y ≤ z) (fun z hz => by omega))).trans (e5.mono (Q := fun z => y ≤ z) (fun z hz => by omega))
    have exc : hI hd x = va_up (hI h x) 14 0 := by rw [ty.2.2.2 x (by omega), z12]
    have eyc : hI hc y = hI (sI h2 y 0 0) y := by rw [d2.2.2.2 y (by omega), b2.2.2.2 y (by omega), a2.2.2.2 y (by omega), el.2.2.2 y (by omega)]
    have tl : ∀ u D, RD h y u D → RD hl y u D := fun u D p => by
      unfold RD at p ⊢
      rw [g0 27 (by decide) (by decide), g0 28 (by decide) (by decide), g0 29 (by decide) (by decide), g0 30 (by decide) (by decide), g0 31 (by decide) (by decide), g0 32 (by decide) (by decide)]
      exact p
    have tr : ∀ u D, RD ha y u D → RD hd y u D := fun u D p => by
      have e : ∀ k, 27 ≤ k → k ≤ 32 → hI hd (y + k) = hI ha (y + k) := fun k k1 k2 => by rw [e5.2.2.2 _ (by omega), d2.2.2.2 _ (by omega), b2.2.2.2 _ (by omega)]
      unfold RD at p ⊢
      rw [e 27 (by decide) (by decide), e 28 (by decide) (by decide), e 29 (by decide) (by decide), e 30 (by decide) (by decide), e 31 (by decide) (by decide), e 32 (by decide) (by decide)]
      exact p
    have gs : ∀ k, 33 ≤ k → k ≤ 36 → hI ha (y + k) = hI h (y + k) := fun k k1 k2 => by rw [a2.2.2.2 _ (by omega)]; exact g0 k (by omega) (by omega)
    have gt : ∀ k, 33 ≤ k → k ≤ 36 → hI hd (y + k) = hI hb (y + k) := fun k k1 k2 => by rw [e5.2.2.2 _ (by omega), d2.2.2.2 _ (by omega)]
    have ul : ∀ u R, RR h y u R → RR ha y u R := fun u R p => by
      unfold RR at p ⊢
      rw [gs 33 (by decide) (by decide), gs 34 (by decide) (by decide), gs 35 (by decide) (by decide), gs 36 (by decide) (by decide)]
      exact p
    have ur : ∀ u R, RR hb y u R → RR hd y u R := fun u R p => by
      unfold RR at p ⊢
      rw [gt 33 (by decide) (by decide), gt 34 (by decide) (by decide), gt 35 (by decide) (by decide), gt 36 (by decide) (by decide)]
      exact p
    have e39 : hI hb (y + 39) = hI h (y + 39) := by rw [b2.2.2.2 _ (by omega), a2.2.2.2 _ (by omega)]; exact g0 39 (by decide) (by decide)
    have e41 : hI hd (y + 41) = va_up (hI h (y + 41)) i 1 := by rw [e5.2.2.2 _ (by omega), d2.2.2.2 _ (by omega), b2.2.2.2 _ (by omega), a2.2.2.2 _ (by omega), vl]
    have rs : RS (hI hd (y + 37)) 0 (K i).1 := by
      rw [e5.2.2.2 _ (by omega)]
      refine t2'.cp (fun k hk => ?_)
      rw [d3 k hk, e39]
    have cm : CM hd (x + 3) (K i) := by
      have kc : Kx x (fun z => x + 3 ≤ z ∧ z < x + 3 + 11) h1 hd := (ez.kx (Q := fun z => x + 3 ≤ z ∧ z < x + 3 + 11) (fun z hz => by omega)).trans (ty.kx (Q := fun z => x + 3 ≤ z ∧ z < x + 3 + 11) (fun z hz => by omega))
      exact c1.kx kc (fun z z1 z2 => ⟨z1, z2⟩)
    refine ⟨v, w, A, K i, pn, 0, P, lb, K, tn, tb, INVq.up (Nat.le_succ J) (INVq.step (kk.mono (fun z hz => by unfold Kv at hz; omega)) q ⟨cm, rs, tr _ _ ((tl _ _ t3).lay a3 a4 t5.2.1.1), ur _ _ ((ul _ _ t4).lay b3 b4 t5.2.2.1), t5⟩ ⟨⟨pP.1.1, Nat.zero_le _, by rw [exc, va_ne (by decide)]; exact pP.1.2.2.1, by rw [exc, va_eq]; rfl, by rw [v54, va_eq]; rfl⟩, fun j hj => absurd hj (Nat.not_lt_zero j)⟩ ⟨by rw [exc, va_ne (by decide)]; exact pK.1, fun k hk => ?_⟩ (pT.kx kk (by rw [T.2.2.2 (x + 1) (by omega)]) (by rw [v54, va_ne (by decide), eyc, ey1]; exact pT.2.2.1.symm) (fun z hz => by omega)))⟩
    obtain ⟨s1, s2⟩ := pK.2 k hk
    refine ⟨?_, fun lk => ?_⟩
    · rw [e41]
      by_cases c : k = i
      · subst c; rw [va_eq, if_pos l]
      · rw [va_ne c]; exact s1
    · obtain ⟨u1, u2, u3, u4, u5⟩ := s2 lk
      exact ⟨u1.kx kk (fun z z1 z2 => by omega), u2.kx kk (by omega), tr _ _ ((tl _ _ u3).oth (by omega) a3 a4 u5.2.1.1), ur _ _ ((ul _ _ u4).oth (by omega) b3 b4 u5.2.2.1), u5⟩
end DY5
