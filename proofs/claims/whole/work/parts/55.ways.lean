/-! The duty of ways. -/
/-- what all flues ahead of f may have done -/
def pF (A : AV) (S : AS) (R : AR) : Nat → Nat
  | 0 => 1
  | f + 1 => pF A S R f * (FL A S R f).length
section WY
variable {N x y o J : Nat} {A : AV} {S : AS} {R : AR}
theorem ws_no {p : Nat → Nat → Bool} : ∀ n k u, ws 0 p n k u = [u]
  | 0, _, _ => rfl
  | n + 1, k, u => by
    show (if (0 : Nat).testBit k = true then _ else ws 0 p n (k + 1) u) = [u]
    rw [if_neg (by simp), ws_no n]
theorem FL_hi (hW : WV A) (wR : WR A R) {f : Nat} (hf : aC A 1 ≤ f) : (FL A S R f).length = 1 := by
  have z : noF A S f = 0 := by
    apply Nat.eq_of_testBit_eq
    intro j
    rw [Nat.zero_testBit]
    cases e : (noF A S f).testBit j
    · rfl
    · obtain ⟨q1, q2, q3⟩ := noF_b.mp e
      have := hW.2.2.1 j q1
      omega
  have t : tkB A S R f true u5 = true := by
    rw [tk_t]
    unfold okd
    rw [allB_iff]
    intro i hi
    have := (wR.2 i hi).2.1
    have ne : ¬ R.2.2.1 i = f := by omega
    simp [ne]
  unfold FL
  rw [z, ws_no]
  show (if tkB A S R f true u5 = true then u5 :: [] else []).length = 1
  rw [if_pos t]
  rfl
theorem pF_GL (hW : WV A) (wR : WR A R) : pF A S R (aC A 1) = (GL A S R).length := by
  have h3 := hW.1.2.1
  rw [GL_len (S := S) wR hW (show 0 < 3 by decide) (show 1 < 3 by decide) (show 2 < 3 by decide) (by decide) (by decide) (by decide)]
  have hi := fun f => FL_hi (S := S) hW wR (f := f)
  rcases (show aC A 1 = 0 ∨ aC A 1 = 1 ∨ aC A 1 = 2 ∨ aC A 1 = 3 by omega) with e | e | e | e
  · rw [e, hi 0 (by omega), hi 1 (by omega), hi 2 (by omega)]; rfl
  · rw [e, hi 1 (by omega), hi 2 (by omega)]
    show 1 * (FL A S R 0).length = _
    omega
  · rw [e, hi 2 (by omega)]
    show 1 * (FL A S R 0).length * (FL A S R 1).length = _
    rw [Nat.one_mul, Nat.mul_one]
  · rw [e]
    show 1 * (FL A S R 0).length * (FL A S R 1).length * (FL A S R 2).length = _
    rw [Nat.one_mul, Nat.mul_assoc]
theorem pF_pos : ∀ F f, f < F → 0 < pF A S R F → 0 < (FL A S R f).length
  | 0, f, h, _ => absurd h (Nat.not_lt_zero f)
  | F + 1, f, h, p => by
    have p : 0 < pF A S R F * (FL A S R F).length := p
    rcases (show f < F ∨ f = F by omega) with c | c
    · exact pF_pos F f c (Nat.pos_of_mul_pos_right p)
    · rw [c]; exact Nat.pos_of_mul_pos_left p
/-- a walk that minds what is read -/
theorem c_byRead (hN : 5000 ≤ N) {v w f : Nat} {M : AM} {h : PH} (ob : OB h x v w) (pv : VA h v A) (cM : CM h (x + 3) M) (wM : WM A J M) (hJ : J < 2 ^ 30) (hf : f < aC A 1) : ∃ h', f_X8_byRead N (x + 23) v (x + 3) (nI f) h = some ((), h') ∧ Kx x (fun z => ¬ wkR x v z) h h' ∧ VA h' v A ∧ WAc A M.1 f (noF A M.1 f) h' x (FL A M.1 M.2.2 f) ∧ hI h' (x + 23) 11 = nI (rkX (noF A M.1 f) 4) ∧ ∀ j, j < 4 → (noF A M.1 f).testBit j = true → hI h' (x + 23 + 1) (rkX (noF A M.1 f) j) = nI j := by
  have hW := pv.2.2.1
  have h3 := hW.1.2.1
  have vw := ob.1
  have E1 : Ex (fun z => z = x + 23) h (sI h (x + 23) 9 1) := Ex.sI rfl
  have e9 : hI (sI h (x + 23) 9 1) (x + 23) 9 = yb true := by rw [hI_sI_eq, va_eq]; rfl
  have un1 : f_X8_byRead N (x + 23) v (x + 3) (nI f) h = (ck (hK (sI h (x + 23) 9 1) (x + 23) = 8) <| cl (f_X8_go N (x + 23) v (x + 3) (nI f) (-1 : Int32) (-1 : Int32) (sI h (x + 23) 9 1)) fun r3 h4 => some ((), h4)) := by
    unfold f_X8_byRead
    rw [ck_p ob.wk.1, bd_e]
  generalize sI h (x + 23) 9 1 = h1 at E1 e9 un1
  have ob1 := ob.shp (x := x) E1.shp
  have pv1 := pv.ex E1 (fun z z1 z2 z3 => by omega)
  have k1 : Kx x (fun z => z ≠ x + 23) h h1 := E1.kx (fun z hz => hz)
  have cM1 := cM.kx k1 (fun z z1 z2 => by omega)
  obtain ⟨h', r1, r2, r3, r4⟩ := c_go (N := N) (f := f) (q := 0) (g := 0) (mi := true) (pi := -1) (pf := -1) hN (by omega) ob1 pv1 cM1 wM hJ (by decide) (fun z => absurd rfl z) (by omega) (by omega) (fun z => absurd rfl z) (X := noF A M.1 f) (fun j => ⟨fun z => ⟨z, by omega⟩, fun z => z.1⟩) e9
  have eu : u0Q 0 0 = u5 := by
    funext j
    unfold u0Q u5
    rw [if_neg (by omega)]
  have et : takeL (tkB A M.1 M.2.2 f true) (ws (noF A M.1 f) (al A M.1) 4 0 (u0Q 0 0)) [] = FL A M.1 M.2.2 f := by rw [eu]; rfl
  rw [et] at r4
  obtain ⟨-, -, q3, -, -, -, -, -, q9, -, q11⟩ := r3
  refine ⟨h', ?_, (k1.mono (fun z hz => by unfold wkR at hz; omega)).trans r2, q3, r4, q9, fun j hj t => (q11 j hj t).1⟩
  rw [un1, ck_p ob1.wk.1, r1, cl_s]
/-- what a walk tells of a house that it went by -/
def swR (A : AV) (S : AS) (R : AR) (i : Nat) : Int32 := if (FL A S R (aF A i)).length = 0 then -1 else ce A (sN i (FL A S R (aF A i)))
theorem c_smo {v w f i : Nat} {h : PH} (ob : OB h x v w) (wa : WAc A S f (noF A S f) h x (FL A S R f)) (e11 : hI h (x + 23) 11 = nI (rkX (noF A S f) 4)) (hs : ∀ j, j < 4 → (noF A S f).testBit j = true → hI h (x + 23 + 1) (rkX (noF A S f) j) = nI j) (hi : i < 4) (ti : (noF A S f).testBit i = true) (ef : aF A i = f) : ∀ (n q : Nat), rkX (noF A S f) 4 < n + q → q ≤ rkX (noF A S f) 4 → (q ≤ rkX (noF A S f) i ∨ (FL A S R f).length = 0) → f_X8_sameOf_2 N n (x + 23) (nI i) (nI q) h = some (swR A S R i, h)
  | 0, q, h1, h2, _ => by omega
  | n + 1, q, h1, h2, hq => by
    have wk := ob.wk
    have r4 := rkX_le (noF A S f) 4
    have fl := FL_le (A := A) (S := S) (R := R) f
    have sw : swR A S R i = if (FL A S R f).length = 0 then -1 else ce A (sN i (FL A S R f)) := by unfold swR; rw [ef]
    show f_X8_sameOf_2_b N (f_X8_sameOf_2 N n) (x + 23) _ _ h = _
    unfold f_X8_sameOf_2_b
    rw [ck_p wk.1, e11, ite_i (nI_leI (by omega) (by omega))]
    by_cases c : rkX (noF A S f) 4 ≤ q
    · have lt := rkX_lt hi ti
      rw [if_pos c, sw, if_pos (hq.resolve_left (by omega))]
    · obtain ⟨j, j1, j2, j3⟩ := rkX_ex 4 q (show q < rkX (noF A S f) 4 by omega)
      have next : (q + 1 ≤ rkX (noF A S f) i ∨ (FL A S R f).length = 0) → f_X8_sameOf_34 N (f_X8_sameOf_2 N n) (x + 23) (nI i) (nI q) h = some (swR A S R i, h) := fun z => by
        unfold f_X8_sameOf_34
        rw [bd_e, nI_1]
        exact c_smo ob wa e11 hs hi ti ef n (q + 1) (by omega) (by omega) z
      have hj := hs j j1 j2
      rw [j3] at hj
      rw [if_neg c, wk.2.1.1, rq_s, ck_p wk.2.2.1.1, wk.2.2.1.2, ck_p (nI_ix (by omega) (by decide)), ix_nI (by omega), hj, ite_i (nI_eq (a := j) (b := i) (by omega) (by omega))]
      by_cases e : j = i
      · subst e
        rw [if_pos rfl, wa.1, ite_i (show nI (FL A S R f).length ≤ 0 ↔ (FL A S R f).length ≤ 0 from nI_leI (b := 0) (by omega) (by decide))]
        by_cases z : (FL A S R f).length ≤ 0
        · rw [if_pos z]
          exact next (Or.inr (by omega))
        · have ne : FL A S R f ≠ [] := fun q => z (by rw [q]; exact Nat.le_refl _)
          have hv := wa.2.2.2.2.2.2.2 j j1 j2 ne
          rw [j3] at hv
          rw [if_neg z, wk.2.1.2.2.2.1, rq_s, ck_p wk.2.2.2.2.2.1.1, wk.2.2.2.2.2.1.2, ck_p (nI_ix (by omega) (by decide)), hv, sw, if_neg (by omega)]
      · rw [if_neg e]
        refine next (hq.imp (fun z => ?_) (fun z => z))
        have : q ≠ rkX (noF A S f) i := fun k => e (rkX_inj j2 ti (j3.trans k))
        omega
/-- what ways answers -/
def wyR (A : AV) (S : AS) (R : AR) (a : Int32) : Int32 := if a = -1 then nI (GL A S R).length else if (GL A S R).length = 0 then -1 else ce A (sN (ix a) (GL A S R))
theorem c_wys (hN : 5000 ≤ N) (hJ : J < 2 ^ 30) {v w : Nat} {M : AM} {a : Int32} (wM : WM A J M) (hW : WV A) (ha : a = -1 ∨ ∃ i, a = nI i ∧ i < aC A 2 ∧ tL M.1 i = 0) : ∀ (n f : Nat) (h : PH) (s : Int32), aC A 1 < n + f → f ≤ aC A 1 → OB h x v w → VA h v A → CM h (x + 3) M → (∀ i, a = nI i → i < 4 → aF A i < f → s = swR A M.1 M.2.2 i) → ∃ h', f_X10_ways_41 N n x a (nI (pF A M.1 M.2.2 f)) s (nI f) h = some (wyR A M.1 M.2.2 a, h') ∧ Kx x (fun z => ¬ wkR x v z) h h' ∧ VA h' v A
  | 0, f, h, s, h1, h2, _, _, _, _ => by omega
  | n + 1, f, h, s, h1, h2, ob, pv, cM, hs => by
    have h3 := hW.1.2.1
    have h4 := hW.1.2.2.1
    have vw := ob.1
    have wR := wM.2.2
    have gl := GL_le (A := A) (S := M.1) (R := M.2.2)
    show ∃ h', f_X10_ways_41_b N (f_X10_ways_41 N n) x _ _ _ _ h = _ ∧ _
    unfold f_X10_ways_41_b
    rw [ck_p ob.k9, ob.R8, rq_s, ck_p pv.1.1, vR_many pv.1, rq_s, ck_p (vK_many pv.1), vN_many pv.1, ck_p (by decide), pv.2.1.1 1 (by decide), ite_i (nI_leI (by omega) (by omega))]
    by_cases c : aC A 1 ≤ f
    · have e : f = aC A 1 := by omega
      subst e
      rw [if_pos c, pF_GL hW wR]
      refine ⟨h, ?_, Kx.rf, pv⟩
      unfold wyR
      rcases ha with ha | ⟨i, rfl, hi, -⟩
      · rw [if_pos ha, if_pos ha]
      · have ne : ¬ nI i = -1 := fun z => by
          have := congrArg Int32.toInt z
          rw [nI_toInt (by omega), show (-1 : Int32).toInt = -1 by decide] at this
          omega
        rw [if_neg ne, if_neg ne, ite_i (show nI (GL A M.1 M.2.2).length = 0 ↔ (GL A M.1 M.2.2).length = 0 from nI_eq (b := 0) (by omega) (by decide))]
        by_cases z : (GL A M.1 M.2.2).length = 0
        · rw [if_pos z, if_pos z]
        · have fi := hW.2.2.1 i hi
          have pp : 0 < pF A M.1 M.2.2 (aC A 1) := by rw [pF_GL hW wR]; omega
          have fp := pF_pos (aC A 1) (aF A i) fi pp
          rw [if_neg z, if_neg z, hs i rfl (by omega) fi, ix_nI (by omega), GL_sN wR hW hi (fun q => z (by rw [q]; rfl))]
          unfold swR
          rw [if_neg (by omega)]
    · obtain ⟨g, r1, k1, pg, wa, e11, e24⟩ := c_byRead (N := N) hN ob pv cM wM hJ (show f < aC A 1 by omega)
      have ob1 := ob.shp k1.1
      have cM1 := cM.kx k1 (fun z z1 z2 => by unfold wkR; omega)
      have ep : nI (pF A M.1 M.2.2 f) * nI (FL A M.1 M.2.2 f).length = nI (pF A M.1 M.2.2 (f + 1)) := pk_mul _ _
      have next : ∀ s', (∀ i, a = nI i → i < 4 → aF A i < f + 1 → s' = swR A M.1 M.2.2 i) → ∃ h', f_X10_ways_110 N (f_X10_ways_41 N n) x a (nI (pF A M.1 M.2.2 (f + 1))) s' (nI f) g = some (wyR A M.1 M.2.2 a, h') ∧ Kx x (fun z => ¬ wkR x v z) h h' ∧ VA h' v A := fun s' hs' => by
        obtain ⟨h', t1, t2, t3⟩ := c_wys hN hJ wM hW ha n (f + 1) g s' (by omega) (by omega) ob1 pg cM1 hs'
        refine ⟨h', ?_, k1.trans t2, t3⟩
        unfold f_X10_ways_110
        rw [bd_e, nI_1]
        exact t1
      rw [if_neg c, ob.R6, rq_s, rq_s, ob.R1, rq_s, ck_p ob.wk.1, r1, cl_s, ck_p ob1.k9, ob1.R6, rq_s, ck_p ob1.wk.1, wa.1, ep, bd_e]
      rcases ha with ha | ⟨i, rfl, hi, li⟩
      · rw [if_pos ha]
        exact next s (fun i q qi => absurd (ha.symm.trans q) (fun z => by
          have := congrArg Int32.toInt z
          rw [nI_toInt (by omega), show (-1 : Int32).toInt = -1 by decide] at this
          omega))
      · have ne : ¬ nI i = -1 := fun z => by
          have := congrArg Int32.toInt z
          rw [nI_toInt (by omega), show (-1 : Int32).toInt = -1 by decide] at this
          omega
        have fi := hW.2.2.1 i hi
        rw [if_neg ne, ob1.R8, rq_s, ck_p pg.1.1, vR_flue pg.1, rq_s, ck_p (vK_flue pg.1), vN_flue pg.1, ck_p (nI_ix (by omega) (by decide)), ix_nI (by omega), pg.2.1.2.2.2.1 i hi, ite_i (nI_eq (a := aF A i) (b := f) (by omega) (by omega))]
        by_cases e : aF A i = f
        · have ti : (noF A M.1 f).testBit i = true := noF_b.mpr ⟨hi, e, li⟩
          have r4 := rkX_le (noF A M.1 f) 4
          have so := c_smo (N := N) ob1 wa e11 e24 (by omega) ti e N 0 (by omega) (by omega) (Or.inl (Nat.zero_le _))
          have so' : f_X8_sameOf N (x + 23) (nI i) g = some (swR A M.1 M.2.2 i, g) := so
          rw [if_pos e, rq_s, ck_p ob1.wk.1, so', cl_s]
          exact next _ (fun k hk k4 _ => by
            have := (nI_eq (by omega) (by omega)).mp hk
            rw [this])
        · rw [if_neg e]
          exact next s (fun k hk k4 lk => by
            have q := (nI_eq (by omega) (by omega)).mp hk
            subst q
            exact hs i rfl k4 (by omega))
theorem exL {N x y o J : Nat} {h h' : PH} {v w : Nat} {A : AV} {M : AM} {pn pc : Nat} {P : Nat → AS} {lb : Nat → Bool} {K : Nat → AM} {tn : Nat} {tb : Nat → Nat} (g : Ex (lwP y) h h') (q : INVq N x y o J h v w A M pn pc P lb K tn tb) : INVq N x y o J h' v w A M pn pc P lb K tn tb := by
  have e : hI h' y = hI h y := g.2.2.2 _ (by unfold lwP inM; omega)
  exact q.ex g (fun z hz => by unfold lwP inM at hz; unfold Sc; omega) (by rw [e]) (by rw [e])
theorem d_ways (hN2 : 5000 ≤ N) (hJ5 : J < 512) : D_ways (INV N x y o J) (INV N x y o (J + 1)) N x y := by
  intro a h ⟨v, w, A, M, pn, pc, P, lb, K, tn, tb, q⟩
  obtain ⟨p0, ob, pv, pm, pnm, ⟨cM, rS, rD, rR, wM⟩, pP, pK, pT⟩ := id q
  have y0 := p0.1
  have vw := ob.1
  have hW := pv.2.2.1
  have h5 := hW.1.1
  have h4 := hW.1.2.2.1
  have q2 := q.thr 0
  obtain ⟨-, -, -, pm2, -, ⟨-, rS2, -, -, wM2⟩, -⟩ := id q2
  by_cases cc : a = -1 ∨ ((¬ a < 0 ∧ ¬ nI (aC A 2) ≤ a) ∧ tL M.1 (ix a) = 0)
  rotate_left
  · have ne : ¬ a = -1 := fun z => cc (Or.inl z)
    refine wp2 (r := -2) (h1 := h) (h2 := sI h y 0 0) ?_ pm.1.1 ?_ q2.inv
    · unfold f_X10_ways
      rw [if_neg ne, ck_p ob.k9, ob.R8, rq_s, ck_p pv.1.1, c_has2 pv, cl_s]
      by_cases c1 : ¬ a < 0 ∧ ¬ nI (aC A 2) ≤ a
      · obtain ⟨i, hi, rfl⟩ := told (by omega) c1
        have li : 0 < tL M.1 i := Nat.pos_of_ne_zero (fun z => cc (Or.inr ⟨c1, by rw [ix_nI (by omega)]; exact z⟩))
        rw [yesT c1, if_neg one0, ck_p ob.k9, ob.R1, rq_s, ck_p ob.mt.1, ob.mt.2.1.1, rq_s, ck_p ob.st.1, c_burns (N := N) ob.st cM.1 wM.1 (by omega), cl_s, yesT li, if_neg one0]
      · rw [yesF c1, if_pos rfl]
    · unfold f_X11_ways
      rw [ck_p pm.1.1, bd_e, if_neg ne, ck_p pm2.1.1, m_isHouse pm2.1 pm2.2.1, cl_s]
      by_cases c1 : ¬ a < 0 ∧ ¬ nI (aC A 2) ≤ a
      · obtain ⟨i, hi, rfl⟩ := told (by omega) c1
        have li : 0 < tL M.1 i := Nat.pos_of_ne_zero (fun z => cc (Or.inr ⟨c1, by rw [ix_nI (by omega)]; exact z⟩))
        rw [yesT c1, if_neg one0, ck_p pm2.1.1, m_isFire pm2.1 rS2 wM2.1 (by omega), cl_s, yesT li, if_neg one0]
      · rw [yesF c1, if_pos rfl]
  have ha : a = -1 ∨ ∃ i, a = nI i ∧ i < aC A 2 ∧ tL M.1 i = 0 := by
    rcases cc with c | ⟨c, l⟩
    · exact Or.inl c
    · obtain ⟨i, hi, rfl⟩ := told (by omega) c
      rw [ix_nI (by omega)] at l
      exact Or.inr ⟨i, rfl, hi, l⟩
  have gl := GL_le (A := A) (S := M.1) (R := M.2.2)
  obtain ⟨h1, r1, k1, pv1⟩ := c_wys (N := N) (a := a) hN2 (by omega) wM hW ha N 0 h (-1) (by have := hW.1.2.1; omega) (by omega) ob pv cM (fun i _ _ z => absurd z (Nat.not_lt_zero _))
  have q1 := q.walk k1 pv1
  have q3 := q1.thr 0
  obtain ⟨-, -, -, pm1, -⟩ := id q1
  obtain ⟨-, -, -, pm3, -, ⟨-, rS3, -, rR3, wM3⟩, -⟩ := id q3
  obtain ⟨h2, s1, s2, s3, -, -, s4⟩ := m_laysWays (N := N) (by omega) wM.1 (by omega) wM.2.2 pm3 rS3 rR3
  have c34 : f_X10_ways_34 N x a h = some (wyR A M.1 M.2.2 a, h1) := r1
  refine wp2 (r := wyR A M.1 M.2.2 a) (h1 := h1) (h2 := h2) ?_ pm1.1.1 ?_ (exL s2 q3).inv
  · unfold f_X10_ways
    rcases ha with c | ⟨i, rfl, hi, li⟩
    · rw [if_pos c, c34]
    · have ne : ¬ nI i = -1 := fun z => by
        have := congrArg Int32.toInt z
        rw [nI_toInt (by omega), show (-1 : Int32).toInt = -1 by decide] at this
        omega
      rw [if_neg ne, ck_p ob.k9, ob.R8, rq_s, ck_p pv.1.1, c_has2 pv, cl_s, yesT (toldI (by omega) hi), if_neg one0, ck_p ob.k9, ob.R1, rq_s, ck_p ob.mt.1, ob.mt.2.1.1, rq_s, ck_p ob.st.1, c_burns (N := N) ob.st cM.1 wM.1 (by omega), cl_s, yesF (by omega), if_pos rfl, c34]
  · unfold f_X11_ways f_X11_ways_29 wyR
    rcases ha with c | ⟨i, rfl, hi, li⟩
    · rw [ck_p pm1.1.1, bd_e, if_pos c, if_pos c, ck_p pm3.1.1, s1, cl_s, if_pos c]
    · have ne : ¬ nI i = -1 := fun z => by
        have := congrArg Int32.toInt z
        rw [nI_toInt (by omega), show (-1 : Int32).toInt = -1 by decide] at this
        omega
      rw [ck_p pm1.1.1, bd_e, if_neg ne, if_neg ne, ck_p pm3.1.1, m_isHouse pm3.1 pm3.2.1, cl_s, yesT (toldI (by omega) hi), if_neg one0, ck_p pm3.1.1, m_isFire pm3.1 rS3 wM3.1 (by omega), cl_s, yesF (by omega), if_pos rfl, ck_p pm3.1.1, s1, cl_s, if_neg ne, ite_i (show nI (GL A M.1 M.2.2).length = 0 ↔ (GL A M.1 M.2.2).length = 0 from nI_eq (b := 0) (by omega) (by decide))]
      by_cases z : (GL A M.1 M.2.2).length = 0
      · rw [if_pos z, if_pos z]
      · have ne2 : GL A M.1 M.2.2 ≠ [] := fun q => z (by rw [q]; rfl)
        have si := sN_ok (A := A) (j := i) (show i < 4 by omega) (GL_ok (S := M.1) (R := M.2.2) hW)
        rw [if_neg z, if_neg z, ck_p s3.1.1, mR_always s3.1, rq_s, ck_p (mK_always s3.1), mN_always s3.1, ck_p (nI_ix (by omega) (by decide)), ix_nI (by omega), s4 ne2 i (by omega), ite_i (show nI (sN i (GL A M.1 M.2.2)) = 6 ↔ sN i (GL A M.1 M.2.2) = 6 from nI_eq (b := 6) (by omega) (by decide))]
        unfold ce
        by_cases e : sN i (GL A M.1 M.2.2) = 6
        · rw [if_pos e, if_pos e]
        · rw [if_neg e, if_neg e, rq_s, ck_p (mK_always s3.1), mN_always s3.1, ck_p (nI_ix (by omega) (by decide)), mR_valley s3.1, rq_s, ck_p (mK_valley s3.1), mN_valley s3.1, ck_p (by decide), s3.2.1.1 0 (by decide), s4 ne2 i (by omega), ite_i (nI_ltI (by omega) (by omega))]
          unfold cu
          by_cases e5 : sN i (GL A M.1 M.2.2) = 5
          · rw [e5, if_pos rfl]
            by_cases l5 : aC A 0 < 5
            · rw [if_pos l5]
            · rw [if_neg l5, show aC A 0 = 5 by omega]
          · rw [if_neg e5, if_neg (by omega)]
end WY
