/-! The duties of sure and hope. -/
theorem lN_div {a d : Nat} (ha : a < 2 ^ 31) (h0 : 0 < d) (hd : d < 2 ^ 31) : lN a / lN d = lN (a / d) := by
  apply Int64.toInt_inj.mp
  have ne : lN d ≠ -1 := fun z => by
    have := congrArg Int64.toInt z
    rw [lN_toInt hd, show (-1 : Int64).toInt = -1 by decide] at this
    omega
  rw [Int64.toInt_div_of_ne_right _ _ ne, lN_toInt ha, lN_toInt hd, lN_toInt (Nat.lt_of_le_of_lt (Nat.div_le_self a d) ha), Int.tdiv_eq_ediv_of_nonneg (by omega)]
  first | rfl | exact (Int.natCast_ediv _ _).symm
section DH
variable {N x y o J : Nat}
theorem INVq.walk {h h' : PH} {v w : Nat} {A : AV} {M : AM} {pn pc : Nat} {P : Nat → AS} {lb : Nat → Bool} {K : Nat → AM} {tn : Nat} {tb : Nat → Nat} (g : Kx x (fun z => ¬ wkR x v z) h h') (hv : VA h' v A) (q : INVq N x y o J h v w A M pn pc P lb K tn tb) : INVq N x y o J h' v w A M pn pc P lb K tn tb := by
  have y0 := q.1.1
  have vw := q.2.1.1
  refine q.keep (g.mono (fun z hz => ?_)) hv (by rw [(g.2 (v + 2) (by unfold wkR; omega)).2]) (by rw [(g.2 y (by unfold wkR; omega)).1]) (by rw [(g.2 y (by unfold wkR; omega)).1])
  unfold Kp at hz
  unfold wkR
  omega
theorem exH {h h' : PH} {v w : Nat} {A : AV} {M : AM} {pn pc : Nat} {P : Nat → AS} {lb : Nat → Bool} {K : Nat → AM} {tn : Nat} {tb : Nat → Nat} (g : Ex (hpP y) h h') (e1 : hI h' y 1 = hI h y 1) (e54 : hI h' y 54 = hI h y 54) (q : INVq N x y o J h v w A M pn pc P lb K tn tb) : INVq N x y o J h' v w A M pn pc P lb K tn tb :=
  q.ex g (fun z hz => by unfold hpP inM at hz; unfold Sc; omega) e1 e54
/-- what a walk beside a house that burns a fuel tells -/
def HL (A : AV) (S : AS) (i g : Nat) : List (Nat → Nat) := takeL tt1 (LQ A S (aF A i) (i + 1) g) []
theorem HL_len {A : AV} {S : AS} (i g : Nat) : 0 < (HL A S i g).length ∧ (HL A S i g).length ≤ 1296 := by
  unfold HL
  rw [takeL_tt, List.length_nil, Nat.zero_add]
  refine ⟨?_, LQ_len _ _ _⟩
  obtain ⟨l, e, -⟩ := LQ_c (A := A) (S := S) (aF A i) (i + 1) g
  rw [e]
  simp
theorem c_besides (hN : 5000 ≤ N) {v w i g : Nat} {A : AV} {M : AM} {h : PH} (ob : OB h x v w) (pv : VA h v A) (cM : CM h (x + 3) M) (wM : WM A J M) (hJ : J < 2 ^ 30) (hi : i < aC A 2) (hg : g < aC A 0) : ∃ h', f_X8_besides N (x + 23) v (x + 3) (nI i) (nI g) h = some ((), h') ∧ Kx x (fun z => ¬ wkR x v z) h h' ∧ VA h' v A ∧ hI h' (x + 23) 13 = nI (HL A M.1 i g).length ∧ ∀ s, s ≤ 6 → hI h' (x + 23 + 7) s = nI (cn (sK A M.1 (aF A i)) s (HL A M.1 i g)) := by
  have hW := pv.2.2.1
  have h5 := hW.1.1
  have h4 := hW.1.2.2.1
  have h3 := hW.1.2.1
  have vw := ob.1
  have fl := hW.2.2.1 i hi
  have E1 : Ex (fun z => z = x + 23) h (sI h (x + 23) 9 0) := Ex.sI rfl
  have e9 : hI (sI h (x + 23) 9 0) (x + 23) 9 = yb false := by rw [hI_sI_eq, va_eq]; rfl
  have un1 : f_X8_besides N (x + 23) v (x + 3) (nI i) (nI g) h = (ck (hK (sI h (x + 23) 9 0) v = 6) <| rq (hR (sI h (x + 23) 9 0) v 5) fun a4 => ck (hK (sI h (x + 23) 9 0) a4 = 12) <| ck (inb (nI i) (COneSmokeLaw_law_r9589_37766e.hN (sI h (x + 23) 9 0) a4)) <| ck (hK (sI h (x + 23) 9 0) (x + 23) = 8) <| cl (f_X8_go N (x + 23) v (x + 3) (hI (sI h (x + 23) 9 0) a4 (ix (nI i))) (nI i) (nI g) (sI h (x + 23) 9 0)) fun r7 h8 => some ((), h8)) := by
    unfold f_X8_besides
    rw [ck_p ob.wk.1, bd_e]
  generalize sI h (x + 23) 9 0 = h1 at E1 e9 un1
  have ob1 := ob.shp (x := x) E1.shp
  have pv1 := pv.ex E1 (fun z z1 z2 z3 => by omega)
  have k1 : Kx x (fun z => z ≠ x + 23) h h1 := E1.kx (fun z hz => hz)
  have cM1 := cM.kx k1 (fun z z1 z2 => by omega)
  obtain ⟨h', r1, r2, r3, r4⟩ := c_go (N := N) (f := aF A i) (q := i + 1) (g := g) (mi := false) (pi := nI i) (pf := nI g) hN (by omega) ob1 pv1 cM1 wM hJ (pk_m1 i).symm (fun _ => rfl) (by omega) (by omega) (fun _ => hg) (X := Xq (noF A M.1 (aF A i)) (i + 1)) (Xq_b (noF_lt hW M.1 (aF A i))) e9
  have et : takeL (tkB A M.1 M.2.2 (aF A i) false) (ws (Xq (noF A M.1 (aF A i)) (i + 1)) (al A M.1) 4 0 (u0Q (i + 1) g)) [] = HL A M.1 i g := takeL_c (fun u => rfl) _ _
  rw [et] at r4
  refine ⟨h', ?_, (k1.mono (fun z hz => by unfold wkR at hz; omega)).trans r2, r3.2.2.1, r4.1, r4.2.2.2.1⟩
  rw [un1, ck_p pv1.1.1, vR_flue pv1.1, rq_s, ck_p (vK_flue pv1.1), vN_flue pv1.1, ck_p (nI_ix (by omega) (by decide)), ck_p ob1.wk.1, ix_nI (by omega), pv1.2.1.2.2.2.1 i hi, r1, cl_s]
theorem d_hope (hN2 : 5000 ≤ N) (hJ5 : J < 512) : D_hope (INV N x y o J) (INV N x y o (J + 1)) N x y := by
  intro a b c h ⟨v, w, A, M, pn, pc, P, lb, K, tn, tb, q⟩
  obtain ⟨p0, ob, pv, pm, pnm, ⟨cM, rS, rD, rR, wM⟩, pP, pK, pT⟩ := id q
  have y0 := p0.1
  have vw := ob.1
  have hW := pv.2.2.1
  have h5 := hW.1.1
  have h4 := hW.1.2.2.1
  have h6 := hW.1.2.2.2.1
  have cb := c_canBurn (N := N) ob pv cM.1 wM.1 a b
  by_cases cc : (¬ c < 0 ∧ ¬ nI (aC A 3) ≤ c) ∧ ((¬ a < 0 ∧ ¬ nI (aC A 2) ≤ a) ∧ (¬ b < 0 ∧ ¬ nI (aC A 0) ≤ b) ∧ tL M.1 (ix a) = 0 ∧ 0 < tT M.1 (5 * ix a + ix b))
  rotate_left
  · have q2 := q.thr 0
    obtain ⟨-, -, -, pm2, -, ⟨-, rS2, -, -, wM2⟩, -⟩ := id q2
    have m2 := pm2.1
    refine wp2 (r := -1) (h1 := h) (h2 := sI h y 0 0) ?_ pm.1.1 ?_ q2.inv
    · unfold f_X10_hope
      rw [ck_p ob.k9, ob.R8, rq_s, ck_p pv.1.1, c_has3 pv, cl_s]
      by_cases c3 : ¬ c < 0 ∧ ¬ nI (aC A 3) ≤ c
      · rw [yesT c3, if_neg one0, ck_p ob.k9, cb, cl_s, yesF (fun z => cc ⟨c3, z⟩), if_pos rfl]
      · rw [yesF c3, if_pos rfl]
    · unfold f_X11_hope
      rw [ck_p pm.1.1, bd_e, ck_p m2.1, m_isHouse m2 pm2.2.1, cl_s]
      by_cases c1 : ¬ a < 0 ∧ ¬ nI (aC A 2) ≤ a
      · rw [yesT c1, if_neg one0, ck_p m2.1, m_isFuel m2 pm2.2.1, cl_s]
        by_cases c2 : ¬ b < 0 ∧ ¬ nI (aC A 0) ≤ b
        · rw [yesT c2, if_neg one0, ck_p m2.1, m_isTold m2 pm2.2.1, cl_s]
          by_cases c3 : ¬ c < 0 ∧ ¬ nI (aC A 3) ≤ c
          · obtain ⟨i, hi, rfl⟩ := told (by omega) c1
            obtain ⟨f, hf, rfl⟩ := told (by omega) c2
            rw [ix_nI (by omega), ix_nI (by omega)] at cc
            rw [yesT c3, if_neg one0, ck_p m2.1, m_canBurn m2 rS2 wM2.1 (by omega) (by omega), cl_s, yesF (fun z => cc ⟨c3, c1, c2, z⟩), if_pos rfl]
          · rw [yesF c3, if_pos rfl]
        · rw [yesF c2, if_pos rfl]
      · rw [yesF c1, if_pos rfl]
  obtain ⟨c3, c1, c2, c4⟩ := id cc
  obtain ⟨i, hi, rfl⟩ := told (by omega) c1
  obtain ⟨g, hg, rfl⟩ := told (by omega) c2
  obtain ⟨s, hs, rfl⟩ := told (by omega) c3
  have ce := c4
  rw [ix_nI (by omega), ix_nI (by omega)] at ce
  obtain ⟨h1, r1, k1, pv1, e13, esg⟩ := c_besides (N := N) hN2 ob pv cM wM (by omega) hi hg
  have ob1 := ob.shp k1.1
  have q1 := q.walk k1 pv1
  have q2 := q1.thr 0
  obtain ⟨-, -, -, pm1, -⟩ := id q1
  obtain ⟨-, -, -, pm2, -, ⟨-, rS2, -⟩, -⟩ := id q2
  have m2 := pm2.1
  obtain ⟨h2, s1, s2, s3, s4, s5⟩ := m_hopes (N := N) (by omega) wM.1 (by omega) hi hg hs pm2 rS2
  obtain ⟨l0, l1⟩ := HL_len (A := A) (S := M.1) i g
  have cl := cn_le (key := sK A M.1 (aF A i)) (d := s) (HL A M.1 i g)
  have ep : nI (cn (sK A M.1 (aF A i)) s (HL A M.1 i g)) * (1000000 : Int32) = nI (cn (sK A M.1 (aF A i)) s (HL A M.1 i g) * 1000000) := pk_mul _ 1000000
  refine wp2 (r := nI (cn (sK A M.1 (aF A i)) s (HL A M.1 i g) * 1000000 / (HL A M.1 i g).length)) (h1 := h1) (h2 := h2) ?_ pm1.1.1 ?_ (exH s2 (s5 1 (by decide) (by decide)) (s5 54 (by decide) (by decide)) q2).inv
  · unfold f_X10_hope
    rw [ck_p ob.k9, ob.R8, rq_s, ck_p pv.1.1, c_has3 pv, cl_s, yesT c3, if_neg one0, ck_p ob.k9, cb, cl_s, yesT cc.2, if_neg one0, ck_p ob.k9, ob.R6, rq_s, ob.R8, rq_s, ob.R1, rq_s, ck_p ob.wk.1, r1, cl_s, ck_p ob1.k9, ob1.R6, rq_s, ck_p ob1.wk.1, e13, if_neg (nI_nle l0 (by omega)), rq_s, ck_p ob1.wk.1, ob1.wk.2.1.2.2.2.2.2.2, rq_s, ck_p ob1.wk.2.2.2.2.2.2.2.2.1, ob1.wk.2.2.2.2.2.2.2.2.2, ck_p (nI_ix (by omega) (by decide)), rq_s, ck_p ob1.wk.1, e13, ck_p (nI_ne0 l0 (by omega)), ix_nI (by omega), esg s (by omega), ep, pk_div (by omega) l0 (by omega)]
  · unfold f_X11_hope
    have pm3 := pm2.ex s2 (fun z z1 z2 z3 => by unfold hpP inM at z3; omega)
    have s3 : hI h2 y 61 = nI (cn (sK A M.1 (aF A i)) s (HL A M.1 i g)) := s3
    have s4 : hI h2 y 62 = nI (HL A M.1 i g).length := s4
    have eq : lN (cn (sK A M.1 (aF A i)) s (HL A M.1 i g)) * (1000000 : Int64) = lN (cn (sK A M.1 (aF A i)) s (HL A M.1 i g) * 1000000) := lN_mul _ 1000000
    have ne : ¬ lN (HL A M.1 i g).length = 0 := fun z => by
      have := (lN_eq (b := 0) (by omega) (by decide)).mp z
      omega
    rw [ck_p pm1.1.1, bd_e, ck_p m2.1, m_isHouse m2 pm2.2.1, cl_s, yesT c1, if_neg one0, ck_p m2.1, m_isFuel m2 pm2.2.1, cl_s, yesT c2, if_neg one0, ck_p m2.1, m_isTold m2 pm2.2.1, cl_s, yesT c3, if_neg one0, ck_p m2.1, m_canBurn m2 rS2 wM.1 (by omega) (by omega), cl_s, yesT ce, if_neg one0, ck_p m2.1, s1, cl_s, ck_p pm3.1.1, s4, s3, nI_l (by omega), nI_l (by omega), ck_p ne, eq, lN_div (by omega) l0 (by omega), lN_i]
/-- the first fuel that tells a sign whatever the others burn -/
def suC (A : AV) (S : AS) (a : Int32) (s f : Nat) : Prop := ((¬ a < 0 ∧ ¬ nI (aC A 2) ≤ a) ∧ (¬ nI f < 0 ∧ ¬ nI (aC A 0) ≤ nI f) ∧ tL S (ix a) = 0 ∧ 0 < tT S (5 * ix a + ix (nI f))) ∧ cn (sK A S (aF A (ix a))) s (HL A S (ix a) f) = (HL A S (ix a) f).length
noncomputable def suR (A : AV) (S : AS) (a : Int32) (s : Nat) : Nat → Nat → Int32
  | 0, _ => -1
  | n + 1, f => @ite _ (suC A S a s f) (Classical.propDecidable _) (nI f) (suR A S a s n (f + 1))
theorem suR_t {A : AV} {S : AS} {a : Int32} {s n f : Nat} (h : suC A S a s f) : suR A S a s (n + 1) f = nI f := by unfold suR; rw [if_pos h]
theorem suR_f {A : AV} {S : AS} {a : Int32} {s n f : Nat} (h : ¬ suC A S a s f) : suR A S a s (n + 1) f = suR A S a s n (f + 1) := by
  show @ite _ (suC A S a s f) (Classical.propDecidable _) _ _ = _
  rw [if_neg h]
theorem suR_no {A : AV} {S : AS} {a : Int32} {s : Nat} : ∀ n f, (∀ g, ¬ suC A S a s g) → suR A S a s n f = -1
  | 0, _, _ => rfl
  | n + 1, f, h => by rw [suR_f (h f), suR_no n (f + 1) h]
theorem c_su (hN2 : 5000 ≤ N) (hJ : J < 2 ^ 30) {v w s : Nat} {A : AV} {M : AM} {a : Int32} (hs : s < aC A 3) (wM : WM A J M) : ∀ (n f : Nat) (h : PH), aC A 0 < n + f → f ≤ aC A 0 → OB h x v w → VA h v A → CM h (x + 3) M → ∃ h', f_X10_sure_16 N n x a (nI s) (nI f) h = some (suR A M.1 a s (aC A 0 - f) f, h') ∧ Kx x (fun z => ¬ wkR x v z) h h' ∧ VA h' v A
  | 0, f, h, h1, h2, _, _, _ => by omega
  | n + 1, f, h, h1, h2, ob, pv, cM => by
    have hW := pv.2.2.1
    have h5 := hW.1.1
    have h4 := hW.1.2.2.1
    have h6 := hW.1.2.2.2.1
    have vw := ob.1
    show ∃ h', f_X10_sure_16_b N (f_X10_sure_16 N n) x _ _ _ h = _ ∧ _
    unfold f_X10_sure_16_b
    rw [ck_p ob.k9, ob.R8, rq_s, ck_p pv.1.1, vR_many pv.1, rq_s, ck_p (vK_many pv.1), vN_many pv.1, ck_p (by decide), pv.2.1.1 0 (by decide), ite_i (nI_leI (by omega) (by omega))]
    by_cases c : aC A 0 ≤ f
    · rw [if_pos c, show aC A 0 - f = 0 by omega]
      exact ⟨h, rfl, Kx.rf, pv⟩
    · rw [if_neg c, c_canBurn ob pv cM.1 wM.1 a (nI f), cl_s, show aC A 0 - f = (aC A 0 - (f + 1)) + 1 by omega]
      have next : ∀ g, Kx x (fun z => ¬ wkR x v z) h g → VA g v A → ¬ suC A M.1 a s f → ∃ h', f_X10_sure_76 N (f_X10_sure_16 N n) x a (nI s) (nI f) g = some (suR A M.1 a s ((aC A 0 - (f + 1)) + 1) f, h') ∧ Kx x (fun z => ¬ wkR x v z) h h' ∧ VA h' v A := fun g kg pg no => by
        obtain ⟨h', r1, r2, r3⟩ := c_su hN2 hJ (a := a) hs wM n (f + 1) g (by omega) (by omega) (ob.shp kg.1) pg (cM.kx kg (fun z z1 z2 => by unfold wkR; omega))
        refine ⟨h', ?_, kg.trans r2, r3⟩
        unfold f_X10_sure_76
        rw [bd_e, nI_1, suR_f no]
        exact r1
      by_cases cb : (¬ a < 0 ∧ ¬ nI (aC A 2) ≤ a) ∧ (¬ nI f < 0 ∧ ¬ nI (aC A 0) ≤ nI f) ∧ tL M.1 (ix a) = 0 ∧ 0 < tT M.1 (5 * ix a + ix (nI f))
      · obtain ⟨i, hi, rfl⟩ := told (by omega) cb.1
        obtain ⟨g, r1, k1, pg, e13, esg⟩ := c_besides (N := N) hN2 ob pv cM wM hJ hi (show f < aC A 0 by omega)
        have ob1 := ob.shp k1.1
        obtain ⟨l0, l1⟩ := HL_len (A := A) (S := M.1) i f
        have cl := cn_le (key := sK A M.1 (aF A i)) (d := s) (HL A M.1 i f)
        rw [yesT cb, if_neg one0, ck_p ob.k9, ob.R6, rq_s, ob.R8, rq_s, ob.R1, rq_s, ck_p ob.wk.1, r1, cl_s, ck_p ob1.k9, ob1.R6, rq_s, ck_p ob1.wk.1, ob1.wk.2.1.2.2.2.2.2.2, rq_s, ck_p ob1.wk.2.2.2.2.2.2.2.2.1, ob1.wk.2.2.2.2.2.2.2.2.2, ck_p (nI_ix (by omega) (by decide)), rq_s, ck_p ob1.wk.1, e13, ix_nI (by omega), esg s (by omega), ite_i (nI_eq (by omega) (by omega))]
        by_cases ca : cn (sK A M.1 (aF A i)) s (HL A M.1 i f) = (HL A M.1 i f).length
        · rw [if_pos ca]
          have t : suC A M.1 (nI i) s f := ⟨cb, by rw [ix_nI (by omega)]; exact ca⟩
          rw [suR_t t]
          exact ⟨g, rfl, k1, pg⟩
        · rw [if_neg ca]
          exact next g k1 pg (fun z => ca (by have := z.2; rw [ix_nI (by omega)] at this; exact this))
      · rw [yesF cb, if_pos rfl]
        exact next h Kx.rf pv (fun z => cb z.1)
theorem m_su (hN2 : 5000 ≤ N) (hJ : J < 2 ^ 30) {s i : Nat} {A : AV} {S : AS} (hs : s < aC A 3) (hi : i < aC A 2) (hT : WS A J S) : ∀ (n f : Nat) (h : PH), aC A 0 < n + f → f ≤ aC A 0 → MA N h y A → RS (hI h (y + 37)) 0 S → ∃ h', f_X11_sure_33 N n y (nI i) (nI s) (nI f) h = some (suR A S (nI i) s (aC A 0 - f) f, h') ∧ Ex (hpP y) h h' ∧ ∀ j, j ≠ 61 → j ≠ 62 → hI h' y j = hI h y j
  | 0, f, h, h1, h2, _, _ => by omega
  | n + 1, f, h, h1, h2, p, rS => by
    have m := p.1
    have hW := p.2.2.1
    have h5 := hW.1.1
    have h4 := hW.1.2.2.1
    show ∃ h', f_X11_sure_33_b N (f_X11_sure_33 N n) y _ _ _ h = _ ∧ _
    unfold f_X11_sure_33_b
    rw [ck_p m.1, mR_valley m, rq_s, ck_p (mK_valley m), mN_valley m, ck_p (by decide), p.2.1.1 0 (by decide), ite_i (nI_leI (by omega) (by omega))]
    by_cases c : aC A 0 ≤ f
    · rw [if_pos c, show aC A 0 - f = 0 by omega]
      exact ⟨h, rfl, Ex.rf, fun _ _ _ => rfl⟩
    · rw [if_neg c, m_canBurn m rS hT (by omega) (by omega), cl_s, show aC A 0 - f = (aC A 0 - (f + 1)) + 1 by omega]
      have next : ∀ g, Ex (hpP y) h g → (∀ j, j ≠ 61 → j ≠ 62 → hI g y j = hI h y j) → ¬ suC A S (nI i) s f → ∃ h', f_X11_sure_75 N (f_X11_sure_33 N n) y (nI i) (nI s) (nI f) g = some (suR A S (nI i) s ((aC A 0 - (f + 1)) + 1) f, h') ∧ Ex (hpP y) h h' ∧ ∀ j, j ≠ 61 → j ≠ 62 → hI h' y j = hI h y j := fun g kg kj no => by
        obtain ⟨h', r1, r2, r3⟩ := m_su hN2 hJ hs hi hT n (f + 1) g (by omega) (by omega) (p.ex kg (fun z z1 z2 z3 => by unfold hpP inM at z3; omega)) (rS.ex kg (by unfold hpP inM; omega))
        refine ⟨h', ?_, kg.trans r2, fun j j1 j2 => (r3 j j1 j2).trans (kj j j1 j2)⟩
        unfold f_X11_sure_75
        rw [bd_e, nI_1, suR_f no]
        exact r1
      by_cases cb : tL S i = 0 ∧ 0 < tT S (5 * i + f)
      · obtain ⟨g, s1, s2, s3, s4, s5⟩ := m_hopes (N := N) (by omega) hT hJ hi (show f < aC A 0 by omega) hs p rS
        have s3 : hI g y 61 = nI (cn (sK A S (aF A i)) s (HL A S i f)) := s3
        have s4 : hI g y 62 = nI (HL A S i f).length := s4
        obtain ⟨l0, l1⟩ := HL_len (A := A) (S := S) i f
        have cl := cn_le (key := sK A S (aF A i)) (d := s) (HL A S i f)
        have kg : hK g y = 10 := by rw [s2.1.1]; exact m.1
        rw [yesT cb, if_neg one0, ck_p m.1, s1, cl_s, ck_p kg, s3, s4, ite_i (nI_eq (by omega) (by omega))]
        by_cases ca : cn (sK A S (aF A i)) s (HL A S i f) = (HL A S i f).length
        · rw [if_pos ca]
          have t : suC A S (nI i) s f := ⟨⟨toldI (by omega) hi, toldI (by omega) (by omega), by rw [ix_nI (by omega), ix_nI (by omega)]; exact cb⟩, by rw [ix_nI (by omega)]; exact ca⟩
          rw [suR_t t]
          exact ⟨g, rfl, s2, s5⟩
        · rw [if_neg ca]
          exact next g s2 s5 (fun z => ca (by have := z.2; rw [ix_nI (by omega)] at this; exact this))
      · rw [yesF cb, if_pos rfl]
        exact next h Ex.rf (fun _ _ _ => rfl) (fun z => cb (by have := z.1.2.2; rw [ix_nI (by omega), ix_nI (by omega)] at this; exact this))
theorem d_sure (hN2 : 5000 ≤ N) (hJ5 : J < 512) : D_sure (INV N x y o J) (INV N x y o (J + 1)) N x y := by
  intro a b h ⟨v, w, A, M, pn, pc, P, lb, K, tn, tb, q⟩
  obtain ⟨p0, ob, pv, pm, pnm, ⟨cM, rS, rD, rR, wM⟩, pP, pK, pT⟩ := id q
  have y0 := p0.1
  have vw := ob.1
  have hW := pv.2.2.1
  have h5 := hW.1.1
  have h4 := hW.1.2.2.1
  have h6 := hW.1.2.2.2.1
  by_cases c3 : ¬ b < 0 ∧ ¬ nI (aC A 3) ≤ b
  rotate_left
  · have q2 := q.thr 0
    obtain ⟨-, -, -, pm2, -⟩ := id q2
    have m2 := pm2.1
    refine wp2 (r := -1) (h1 := h) (h2 := sI h y 0 0) ?_ pm.1.1 ?_ q2.inv
    · unfold f_X10_sure
      rw [ck_p ob.k9, ob.R8, rq_s, ck_p pv.1.1, c_has3 pv, cl_s, yesF c3, if_pos rfl]
    · unfold f_X11_sure
      rw [ck_p pm.1.1, bd_e, ck_p m2.1, m_isHouse m2 pm2.2.1, cl_s]
      by_cases c1 : ¬ a < 0 ∧ ¬ nI (aC A 2) ≤ a
      · rw [yesT c1, if_neg one0, ck_p m2.1, m_isTold m2 pm2.2.1, cl_s, yesF c3, if_pos rfl]
      · rw [yesF c1, if_pos rfl]
  obtain ⟨s, hs, rfl⟩ := told (by omega) c3
  obtain ⟨h1, r1, k1, pv1⟩ := c_su (N := N) hN2 (by omega) (a := a) hs wM N 0 h (by omega) (by omega) ob pv cM
  have q1 := q.walk k1 pv1
  have q2 := q1.thr 0
  obtain ⟨-, -, -, pm1, -⟩ := id q1
  obtain ⟨-, -, -, pm2, -, ⟨-, rS2, -⟩, -⟩ := id q2
  have m2 := pm2.1
  have r1 : f_X10_sure_16 N N x a (nI s) 0 h = some (suR A M.1 a s (aC A 0) 0, h1) := r1
  have cls : f_X10_sure N x a (nI s) h = some (suR A M.1 a s (aC A 0) 0, h1) := by
    unfold f_X10_sure
    rw [ck_p ob.k9, ob.R8, rq_s, ck_p pv.1.1, c_has3 pv, cl_s, yesT c3, if_neg one0]
    exact r1
  by_cases c1 : ¬ a < 0 ∧ ¬ nI (aC A 2) ≤ a
  rotate_left
  · refine wp2 cls pm1.1.1 (h2 := sI h1 y 0 0) ?_ q2.inv
    unfold f_X11_sure
    rw [ck_p pm1.1.1, bd_e, ck_p m2.1, m_isHouse m2 pm2.2.1, cl_s, yesF c1, if_pos rfl, suR_no _ _ (fun g z => c1 z.1.1)]
  obtain ⟨i, hi, rfl⟩ := told (by omega) c1
  by_cases c4 : 0 < tL M.1 i
  · refine wp2 cls pm1.1.1 (h2 := sI h1 y 0 0) ?_ q2.inv
    unfold f_X11_sure
    rw [ck_p pm1.1.1, bd_e, ck_p m2.1, m_isHouse m2 pm2.2.1, cl_s, yesT c1, if_neg one0, ck_p m2.1, m_isTold m2 pm2.2.1, cl_s, yesT c3, if_neg one0, ck_p m2.1, m_isFire m2 rS2 wM.1 (by omega), cl_s, yesT c4, if_neg one0, suR_no _ _ (fun g z => by have := z.1.2.2.1; rw [ix_nI (by omega)] at this; omega)]
  obtain ⟨h2, s1, s2, s3⟩ := m_su (N := N) hN2 (by omega) hs hi wM.1 N 0 (sI h1 y 0 0) (by omega) (by omega) pm2 rS2
  have s1 : f_X11_sure_33 N N y (nI i) (nI s) 0 (sI h1 y 0 0) = some (suR A M.1 (nI i) s (aC A 0) 0, h2) := s1
  refine wp2 cls pm1.1.1 (h2 := h2) ?_ (exH s2 (s3 1 (by decide) (by decide)) (s3 54 (by decide) (by decide)) q2).inv
  unfold f_X11_sure
  rw [ck_p pm1.1.1, bd_e, ck_p m2.1, m_isHouse m2 pm2.2.1, cl_s, yesT c1, if_neg one0, ck_p m2.1, m_isTold m2 pm2.2.1, cl_s, yesT c3, if_neg one0, ck_p m2.1, m_isFire m2 rS2 wM.1 (by omega), cl_s, yesF c4, if_pos rfl]
  exact s1
end DH
