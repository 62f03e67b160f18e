/-! The duty of share, the reference's side. -/
section SI
variable {N x y o J : Nat} {A : AV} {S : AS}
theorem m_ord {j : Nat} (hj : j ≤ 4) : ∀ (n m : Nat) (h : PH), 6 < n + m → 2 ≤ m → m ≤ 5 → (m = 2 ∨ m ≤ j + 1) → f_X11_orders_4 N n (nI j) (nI (fct (m - 1))) (nI m) h = some (nI (fct j), h)
  | 0, m, h, h1, h2, h3, _ => by omega
  | n + 1, m, h, h1, h2, h3, h4 => by
    show f_X11_orders_4_b N (f_X11_orders_4 N n) _ _ _ h = _
    unfold f_X11_orders_4_b
    rw [ite_i (nI_ltI (a := j) (b := m) (by omega) (by omega))]
    by_cases c : j < m
    · rw [if_pos c]
      have e : fct (m - 1) = fct j := by
        rcases h4 with q | q
        · subst q
          rcases (show j = 0 ∨ j = 1 by omega) with e | e
          · rw [e]; rfl
          · rw [e]
        · rw [show m - 1 = j by omega]
      rw [e]
    · have e : fct (m - 1) * m = fct (m + 1 - 1) := by
        rcases (show m = 2 ∨ m = 3 ∨ m = 4 by omega) with e | e | e
        · rw [e]; rfl
        · rw [e]; rfl
        · rw [e]; rfl
      rw [if_neg c, pk_mul, e, bd_e, bd_e, nI_1]
      exact m_ord hj n (m + 1) h (by omega) (by omega) (by omega) (by omega)
theorem m_orders (hN2 : 10 ≤ N) {j : Nat} (hj : j ≤ 4) (h : PH) : f_X11_orders N (nI j) h = some (nI (fct j), h) := m_ord (N := N) hj N 2 h (by omega) (by omega) (by omega) (Or.inl rfl)
theorem m_so7 (hT : WS A J S) (hJ5 : J < 2 ^ 30) {X : Nat} (hX : X < 16) : ∀ (n i : Nat) (h : PH), aC A 2 < n + i → i ≤ aC A 2 → MA N h y A → RS (hI h (y + 37)) 0 S → ∃ h', f_X11_sootOf_7 N n y (nI X) (nI (fb_sm (fun j => if X.testBit j = true then gv A (tF S j) (tL S j) (aWind A (tH S)) 0 else 0) i)) (nI (fb_sm (fun j => if X.testBit j = true then gv A (tF S j) (tL S j) (aWind A (tH S)) 1 else 0) i)) (nI i) h = some (nI (soX A S X), h') ∧ Ex (inM y) h h'
  | 0, i, h, h1, h2, _, _ => by omega
  | n + 1, i, h, h1, h2, p, rS => by
    have m := p.1
    have hWV := p.2.2.1
    have h4 := hWV.1.2.2.1
    have sm : ∀ b, smk A S X (aWind A (tH S)) b = fb_sm (fun j => if X.testBit j = true then gv A (tF S j) (tL S j) (aWind A (tH S)) b else 0) (aC A 2) := fun b => by
      unfold smk
      rw [show (4 : Nat) = aC A 2 + (4 - aC A 2) by omega, fb_more _ (fun j j1 j2 => ?_)]
      rw [gv_no hT (by omega) ((hT.2.1 j (by omega)).2.2.2 j1)]
      split <;> rfl
    have l0 := smk_le hWV S X (aWind A (tH S)) 0 i
    have l1 := smk_le hWV S X (aWind A (tH S)) 1 i
    show ∃ h', f_X11_sootOf_7_b N (f_X11_sootOf_7 N n) y _ _ _ _ h = _ ∧ _
    unfold f_X11_sootOf_7_b
    rw [ck_p m.1, mR_valley m, rq_s, ck_p (mK_valley m), mN_valley m, ck_p (by decide), p.2.1.1 2 (by decide), ite_i (nI_leI (a := aC A 2) (b := i) (by omega) (by omega))]
    by_cases c : aC A 2 ≤ i
    · have e : i = aC A 2 := by omega
      subst e
      rw [if_pos c, show (999 : Int32) = nI 999 from rfl, min9' (by omega) (by decide), min9' (by omega) (by decide), ← sm 0, ← sm 1]
      obtain ⟨h', r1, r2⟩ := m_sootBy (N := N) (y := y) p rS hT hJ5 (d := min (smk A S X (aWind A (tH S)) 0) 999) (s := min (smk A S X (aWind A (tH S)) 1) 999) (by omega) (by omega)
      rw [r1, cl_s]
      exact ⟨h', rfl, r2⟩
    · have stp : ∀ b, fb_sm (fun j => if X.testBit j = true then gv A (tF S j) (tL S j) (aWind A (tH S)) b else 0) (i + 1) = fb_sm (fun j => if X.testBit j = true then gv A (tF S j) (tL S j) (aWind A (tH S)) b else 0) i + (if X.testBit i = true then gv A (tF S i) (tL S i) (aWind A (tH S)) b else 0) := fun b => rfl
      have next : ∀ g, Ex (inM y) h g → ∃ h', f_X11_sootOf_7 N n y (nI X) (nI (fb_sm (fun j => if X.testBit j = true then gv A (tF S j) (tL S j) (aWind A (tH S)) 0 else 0) (i + 1))) (nI (fb_sm (fun j => if X.testBit j = true then gv A (tF S j) (tL S j) (aWind A (tH S)) 1 else 0) (i + 1))) (nI (i + 1)) g = some (nI (soX A S X), h') ∧ Ex (inM y) h h' := fun g xg => by
        obtain ⟨h', t1, t2⟩ := m_so7 hT hJ5 hX n (i + 1) g (by omega) (by omega) (p.ex xg (fun z z1 z2 z3 => by unfold inM at z3; omega)) (rS.ex xg (by unfold inM; omega))
        exact ⟨h', t1, xg.trans t2⟩
      rw [stp 0, stp 1] at next
      unfold f_X11_sootOf_40 f_X11_sootOf_64
      rw [if_neg c, ite_i (bt_sh1 X hX i (by omega))]
      by_cases b : X.testBit i = true
      · obtain ⟨g, r1, r2⟩ := m_fireGives p rS hT hJ5 (i := i) (b := 0) (by omega) (by decide)
        have p1 := p.ex r2 (fun z z1 z2 z3 => by unfold inM at z3; omega)
        obtain ⟨g', s1, s2⟩ := m_fireGives p1 (rS.ex r2 (by unfold inM; omega)) hT hJ5 (i := i) (b := 1) (by omega) (by decide)
        have r1 : f_X11_fireGives N y (nI i) 0 h = _ := r1
        have s1 : f_X11_fireGives N y (nI i) 1 g = _ := s1
        rw [if_pos b, if_pos b] at next
        rw [if_pos b, r1, cl_s, nI_add, bd_e, if_pos ((bt_sh1 X hX i (by omega)).mpr b), ck_p p1.1.1, s1, cl_s, nI_add, bd_e, bd_e, nI_1]
        exact next g' (r2.trans s2)
      · rw [if_neg b, if_neg b, Nat.add_zero, Nat.add_zero] at next
        rw [if_neg b, show ∀ v : Nat, nI v + (0 : Int32) = nI v from fun v => nI_add v 0, bd_e, if_neg (fun q => b ((bt_sh1 X hX i (by omega)).mp q)), show ∀ v : Nat, nI v + (0 : Int32) = nI v from fun v => nI_add v 0, bd_e, bd_e, nI_1]
        exact next h Ex.rf
theorem m_sootOf (hN2 : 10 ≤ N) (hT : WS A J S) (hJ5 : J < 2 ^ 30) {X : Nat} (hX : X < 16) {h : PH} (p : MA N h y A) (rS : RS (hI h (y + 37)) 0 S) : ∃ h', f_X11_sootOf N y (nI X) h = some (nI (soX A S X), h') ∧ Ex (inM y) h h' := m_so7 (N := N) (y := y) hT hJ5 hX N 0 h (by have := p.2.2.1.1.2.2.1; omega) (by omega) p rS
theorem d64 {d : Int} (h1 : -999 ≤ d) (h2 : d ≤ 999) : (Int32.ofInt d).toInt64 = Int64.ofInt d := by
  apply Int64.toInt_inj.mp
  rw [Int32.toInt_toInt64, Int32.toInt_ofInt_of_le (by omega) (by omega), Int64.toInt_ofInt_of_le (by omega) (by omega)]
theorem m_sh37 (hN2 : 2000 ≤ N) {i B : Nat} (hT : WS A J S) (hJ5 : J < 2 ^ 30) (hi : i < 4) (hB : B < 16) (ib : B.testBit i = true) : ∀ (n t : Nat) (h : PH), 17 < n + t → t ≤ B + 1 → MA N h y A → RS (hI h (y + 37)) 0 S → ∃ h', f_X11_share_37 N n y (nI i) (nI B) (nI (popc B)) (Int64.ofInt (zs (fun t => (wgt B i t : Int) * dSo A S i t) t)) (nI t) h = some (Int32.ofInt (shQ (zs (fun t => (wgt B i t : Int) * dSo A S i t) 16) (fct (popc B))), h') ∧ Ex (inM y) h h'
  | 0, t, h, h1, h2, _, _ => by omega
  | n + 1, t, h, h1, h2, p, rS => by
    have m := p.1
    have hWV := p.2.2.1
    have pB := popc_le B
    obtain ⟨ws1, ws2, ws3⟩ := wgt_sum B hB i hi ib
    have bd := zs_bd (c := wgt B i) (dSo_b (S := S) hWV i) 16
    rw [ws1] at bd
    show ∃ h', f_X11_share_37_b N (f_X11_share_37 N n) y _ _ _ _ _ h = _ ∧ _
    unfold f_X11_share_37_b
    rw [ite_i (nI_ltI (a := B) (b := t) (by omega) (by omega))]
    by_cases c : B < t
    · have e : zs (fun t => (wgt B i t : Int) * dSo A S i t) t = zs (fun t => (wgt B i t : Int) * dSo A S i t) 16 := by
        rw [show (16 : Nat) = t + (16 - t) by omega]
        refine (zs_tail (16 - t) (fun u u1 u2 => ?_)).symm
        have : wgt B i u = 0 := by
          unfold wgt
          rw [if_neg (fun q => by
            have := le16 u (by omega) B hB q.1
            omega)]
        rw [this]
        exact Int.zero_mul _
      have ne : ¬ lN (fct (popc B)) = 0 := fun z => by
        have := (lN_eq (b := 0) (by omega) (by decide)).mp z
        omega
      rw [if_pos c, e, m_orders (by omega) pB, cl_s, nI_l (by omega), ck_p ne, sh64 (by omega) (by omega) ws3 ws2]
      exact ⟨h, rfl, Ex.rf⟩
    · have t16 : t < 16 := by omega
      have next : ∀ g, Ex (inM y) h g → ∃ h', f_X11_share_116 N (f_X11_share_37 N n) y (nI i) (nI B) (nI (popc B)) (Int64.ofInt (zs (fun t => (wgt B i t : Int) * dSo A S i t) (t + 1))) (nI t) g = some (Int32.ofInt (shQ (zs (fun t => (wgt B i t : Int) * dSo A S i t) 16) (fct (popc B))), h') ∧ Ex (inM y) h h' := fun g xg => by
        obtain ⟨h', t1, t2⟩ := m_sh37 hN2 hT hJ5 hi hB ib n (t + 1) g (by omega) (by omega) (p.ex xg (fun z z1 z2 z3 => by unfold inM at z3; omega)) (rS.ex xg (by unfold inM; omega))
        refine ⟨h', ?_, xg.trans t2⟩
        unfold f_X11_share_116
        rw [bd_e, nI_1]
        exact t1
      have skip : wgt B i t = 0 → ∃ h', f_X11_share_116 N (f_X11_share_37 N n) y (nI i) (nI B) (nI (popc B)) (Int64.ofInt (zs (fun t => (wgt B i t : Int) * dSo A S i t) t)) (nI t) h = some (Int32.ofInt (shQ (zs (fun t => (wgt B i t : Int) * dSo A S i t) 16) (fct (popc B))), h') ∧ Ex (inM y) h h' := fun wg => by
        have e : zs (fun t => (wgt B i t : Int) * dSo A S i t) (t + 1) = zs (fun t => (wgt B i t : Int) * dSo A S i t) t := by
          show zs (fun t => (wgt B i t : Int) * dSo A S i t) t + (wgt B i t : Int) * dSo A S i t = _
          rw [wg, show ((0 : Nat) : Int) = 0 from rfl, Int.zero_mul, Int.add_zero]
        have nx := next h Ex.rf
        rw [e] at nx
        exact nx
      rw [if_neg c, ite_i (sub16 t t16 _ hB)]
      by_cases s : t &&& B = t
      rotate_left
      · rw [if_neg s]
        exact skip (by unfold wgt; rw [if_neg (fun q => s q.1)])
      rw [if_pos s, ite_i (bt_sh1 t t16 i hi)]
      by_cases b : t.testBit i = true
      · rw [if_pos b]
        exact skip (by unfold wgt; rw [if_neg (fun q => by rw [b] at q; exact absurd q.2 (by decide))])
      have b' : t.testBit i = false := by simpa using b
      have pc := pc16 B hB i hi t t16 ⟨ib, s, b'⟩
      have wg : wgt B i t = fct (popc t) * fct (popc B - 1 - popc t) := by unfold wgt; rw [if_pos ⟨s, b'⟩]
      obtain ⟨o1, o2⟩ := or16 t t16 i hi
      obtain ⟨g, r1, x1⟩ := m_sootOf (N := N) (y := y) (by omega) hT hJ5 o2 p rS
      have p1 := p.ex x1 (fun z z1 z2 z3 => by unfold inM at z3; omega)
      obtain ⟨g', r2, x2⟩ := m_sootOf (N := N) (y := y) (by omega) hT hJ5 t16 p1 (rS.ex x1 (by unfold inM; omega))
      have db := dSo_b (S := S) hWV i t
      have f1 : fct (popc t) < 2 ^ 31 := by
        rcases (show popc t = 0 ∨ popc t = 1 ∨ popc t = 2 ∨ popc t = 3 ∨ popc t = 4 by omega) with e | e | e | e | e <;> rw [e] <;> decide
      have f2 : fct (popc B - 1 - popc t) < 2 ^ 31 := by
        rcases (show popc B - 1 - popc t = 0 ∨ popc B - 1 - popc t = 1 ∨ popc B - 1 - popc t = 2 ∨ popc B - 1 - popc t = 3 ∨ popc B - 1 - popc t = 4 by omega) with e | e | e | e | e <;> rw [e] <;> decide
      rw [if_neg b, ck_p m.1, o1, r1, cl_s, ck_p p1.1.1, r2, cl_s, i32s, show (soX A S (t ||| 2 ^ i) : Int) - (soX A S t : Int) = dSo A S i t from rfl, d64 db.1 db.2, bd_e, m_bits t16, cl_s, m_orders (by omega) (by omega), cl_s, m_bits t16, cl_s, sb5 _ (by omega) _ (by omega) pc, m_orders (by omega) (by omega), cl_s, nI_l f1, nI_l f2, acc64, ← wg, bd_e]
      exact next g' (x1.trans x2)
theorem d_share (hN2 : 5000 ≤ N) (hJ5 : J < 512) : D_share (INV N x y o J) (INV N x y o (J + 1)) N x y := by
  intro a h ⟨v, w, A, M, pn, pc, P, lb, K, tn, tb, q⟩
  obtain ⟨p0, ob, pv, pm, pnm, ⟨cM, rS, rD, -, wM⟩, pP, pK, pT⟩ := id q
  have y0 := p0.1
  have vw := ob.1
  have hWV := pv.2.2.1
  have h3 := hWV.1.2.1
  have h4 := hWV.1.2.2.1
  have q2 := q.thr 0
  obtain ⟨-, -, -, pm2, -, ⟨-, rS2, -, -, wM2⟩, -⟩ := id q2
  by_cases c1 : ¬ a < 0 ∧ ¬ nI (aC A 2) ≤ a
  rotate_left
  · refine wp2 (r := -1) (h1 := h) (h2 := sI h y 0 0) ?_ pm.1.1 ?_ q2.inv
    · unfold f_X10_share
      rw [ck_p ob.k9, ob.R8, rq_s, ck_p pv.1.1, c_has2 pv, cl_s, yesF c1, if_pos rfl]
    · unfold f_X11_share
      rw [ck_p pm.1.1, bd_e, ck_p pm2.1.1, m_isHouse pm2.1 pm2.2.1, cl_s, yesF c1, if_pos rfl]
  obtain ⟨i, hi, rfl⟩ := told (by omega) c1
  have fl := hWV.2.2.1 i hi
  have i4 : i < 4 := by omega
  have hH := aHs_lt hWV (aF A i)
  have iH : (aHs A (aF A i)).testBit i = true := aHs_b.mpr ⟨hi, rfl⟩
  obtain ⟨ws1, ws2, ws3⟩ := wgt_sum _ hH i i4 iH
  -- the reference, at any heap of the invariant
  have ref : ∀ g, INVq N x y o J g v w A M pn pc P lb K tn tb → ∃ h', f_X11_share N y (nI i) g = some (Int32.ofInt (shQ (zs (fun t => (wgt (aHs A (aF A i)) i t : Int) * dSo A M.1 i t) 16) (fct (popc (aHs A (aF A i))))), h') ∧ INVq N x y o J h' v w A M pn pc P lb K tn tb := fun g qg => by
    have qg2 := qg.thr 0
    obtain ⟨-, -, -, pg, -⟩ := id qg
    obtain ⟨-, -, -, pg2, -, ⟨-, rg2, -, -, wg2⟩, -⟩ := id qg2
    obtain ⟨h', t1, t2⟩ := m_sh37 (N := N) (y := y) (i := i) (by omega) wM.1 (show J < 2 ^ 30 by omega) i4 hH iH N 0 (sI g y 0 0) (by omega) (by omega) pg2 rg2
    have ey : hI h' y = hI (sI g y 0 0) y := t2.2.2.2 y (by unfold inM; omega)
    refine ⟨h', ?_, qg2.ex t2 (fun z hz => by unfold inM at hz; unfold Sc; omega) (by rw [ey]) (by rw [ey])⟩
    unfold f_X11_share
    rw [ck_p pg.1.1, bd_e, ck_p pg2.1.1, m_isHouse pg2.1 pg2.2.1, cl_s, yesT c1, if_neg one0, ck_p pg2.1.1, mR_houseAt pg2.1, rq_s, ck_p (mK_houseAt pg2.1), mN_houseAt pg2.1, ck_p (nI_ix (by omega) (by decide)), ix_nI (by omega), pg2.2.1.2.2.1 i hi, m_housesOf (by omega) pg2.1 pg2.2.1 hWV (by omega), cl_s, m_bits hH, cl_s]
    exact t1
  have Fb : ∀ j, (tFires M.1).testBit j = true ↔ (j < 4 ∧ 0 < tL M.1 j) := fun j => by
    unfold tFires
    rw [bts_tb]
    simp
  by_cases c2 : 0 < tL M.1 i
  rotate_left
  · -- no fire: nothing is shared
    have z0 : zs (fun t => (wgt (aHs A (aF A i)) i t : Int) * dSo A M.1 i t) 16 = 0 := zs_0 16 (fun t _ => by
      have : dSo A M.1 i t = 0 := by
        unfold dSo
        rw [soX_c wM.1 (X := t ||| 2 ^ i) (X' := t) (fun j hj nz => ?_), Int.sub_self]
        rw [Nat.testBit_or, Nat.testBit_two_pow]
        have : ¬ i = j := fun e => nz (by rw [← e]; omega)
        simp [this]
      rw [this, Int.mul_zero])
    obtain ⟨h', t1, t2⟩ := ref h q
    rw [z0] at t1
    refine wp2 (r := 0) (h1 := h) (h2 := h') ?_ pm.1.1 ?_ t2.inv
    · unfold f_X10_share
      rw [ck_p ob.k9, ob.R8, rq_s, ck_p pv.1.1, c_has2 pv, cl_s, yesT c1, if_neg one0, ck_p ob.k9, ob.R1, rq_s, ck_p ob.mt.1, ob.mt.2.1.1, rq_s, ck_p ob.st.1, c_burns (N := N) ob.st cM.1 wM.1 i4, cl_s, yesF c2, if_pos rfl]
    · rw [t1]
      have : shQ 0 (fct (popc (aHs A (aF A i)))) = 0 := by
        unfold shQ
        rw [Int.zero_mul, Int.zero_tdiv]
      rw [this]
      rfl
  have F16 : tFires M.1 < 16 := bts_lt _ 4
  have B16 : tFires M.1 &&& aHs A (aF A i) < 16 := Nat.lt_of_le_of_lt Nat.and_le_right hH
  have iB : (tFires M.1 &&& aHs A (aF A i)).testBit i = true := by
    rw [Nat.testBit_and, iH, (Fb i).mpr ⟨i4, c2⟩]
    rfl
  have sB : (tFires M.1 &&& aHs A (aF A i)) &&& aHs A (aF A i) = tFires M.1 &&& aHs A (aF A i) := by
    rw [Nat.and_assoc, Nat.and_self]
  have pp := popc_pos _ B16 i i4 iB
  have pl := popc_le (tFires M.1 &&& aHs A (aF A i))
  obtain ⟨wb1, wb2, wb3⟩ := wgt_sum _ B16 i i4 iB
  have key : shQ (zs (fun t => (wgt (aHs A (aF A i)) i t : Int) * dSo A M.1 i t) 16) (fct (popc (aHs A (aF A i)))) = shQ (zs (fun t => (wgt (tFires M.1 &&& aHs A (aF A i)) i t : Int) * dSo A M.1 i t) 16) (fct (popc (tFires M.1 &&& aHs A (aF A i)))) := by
    refine shQ_eq wb3 ws3 (shap hH i4 B16 sB iB (fun t ht => ?_))
    have tH' : ∀ j, t.testBit j = true → (aHs A (aF A i)).testBit j = true := fun j hj => by
      rw [← ht, Nat.testBit_and, Bool.and_eq_true] at hj
      exact hj.2
    have core : ∀ j, j < 4 → tL M.1 j ≠ 0 → t.testBit j = (t &&& (tFires M.1 &&& aHs A (aF A i))).testBit j := fun j hj nz => by
      rw [Nat.testBit_and, Nat.testBit_and, (Fb j).mpr ⟨hj, by omega⟩]
      cases e : t.testBit j
      · rfl
      · rw [tH' j e]
        rfl
    unfold dSo
    rw [soX_c wM.1 core, soX_c wM.1 (X := t ||| 2 ^ i) (X' := (t &&& (tFires M.1 &&& aHs A (aF A i))) ||| 2 ^ i) (fun j hj nz => by rw [Nat.testBit_or, Nat.testBit_or, core j hj nz])]
  obtain ⟨k1, k2⟩ := cl16a _ B16 i i4 iB
  obtain ⟨h1, r1, r2, r3⟩ := c_sh98 (N := N) (i := i) (by omega) wM.1 (show J < 2 ^ 30 by omega) hWV i4 B16 iB N 0 h (by omega) (by omega) ob pv cM.1
  have q1 := q.gx r2 r3
  obtain ⟨h2, t1, t2⟩ := ref h1 q1
  rw [key] at t1
  refine wp2 (h1 := h1) (h2 := h2) ?_ q1.2.2.2.1.1.1 t1 t2.inv
  unfold f_X10_share
  rw [ck_p ob.k9, ob.R8, rq_s, ck_p pv.1.1, c_has2 pv, cl_s, yesT c1, if_neg one0, ck_p ob.k9, ob.R1, rq_s, ck_p ob.mt.1, ob.mt.2.1.1, rq_s, ck_p ob.st.1, c_burns (N := N) ob.st cM.1 wM.1 i4, cl_s, yesT c2, if_neg one0, ck_p ob.k9, ob.R1, rq_s, ck_p ob.mt.1, ob.mt.2.1.1, rq_s, ck_p ob.st.1, c_fires (N := N) (by omega) ob.st cM.1 wM.1, cl_s, ck_p ob.k9, ob.R8, rq_s, rq_s, ck_p pv.1.1, vR_flue pv.1, rq_s, ck_p (vK_flue pv.1), vN_flue pv.1, ck_p (nI_ix (by omega) (by decide)), ck_p pv.1.1, ix_nI (by omega), pv.2.1.2.2.2.1 i hi, c_housesAt (by omega) pv.1 pv.2.1 hWV (by omega), cl_s, an16 _ F16 _ hH, bd_e, bd_e, k1, bd_e, c_bitCount B16, cl_s, if_neg (show ¬ nI (popc (tFires M.1 &&& aHs A (aF A i))) < (1 : Int32) by rw [show (1 : Int32) = nI 1 from rfl, nI_ltI (by omega) (by omega)]; omega), if_pos (show nI (popc (tFires M.1 &&& aHs A (aF A i))) < (5 : Int32) by rw [show (5 : Int32) = nI 5 from rfl, nI_ltI (by omega) (by omega)]; omega)]
  exact r1
end SI
