/-! Smoke and soot, and what changes the state, on the reference's side. -/
theorem bts_tb (p : Nat → Bool) : ∀ n i, (bts p n).testBit i = (decide (i < n) && p i)
  | 0, i => by simp [bts]
  | n + 1, i => by
    have ih := bts_tb p n
    have lt := bts_lt p n
    rw [bts_succ]
    by_cases c : p n
    · rw [if_pos c, Nat.add_comm]
      rcases Nat.lt_trichotomy i n with q | q | q
      · rw [Nat.testBit_two_pow_add_gt q, ih i]
        simp [q, Nat.lt_succ_of_lt q]
      · subst q
        rw [Nat.testBit_two_pow_add_eq, ih i]
        simp [c]
      · rw [Nat.testBit_lt_two_pow (Nat.lt_of_lt_of_le (show 2 ^ n + bts p n < 2 ^ (n + 1) by rw [Nat.pow_succ]; omega) (Nat.pow_le_pow_right (by decide) q))]
        simp [show ¬ i < n + 1 by omega]
    · rw [if_neg c, ih i]
      by_cases q : i = n
      · subst q
        simp [c]
      · simp [show i < n + 1 ↔ i < n by omega]
theorem fb_more {g : Nat → Nat} {n : Nat} : ∀ k, (∀ i, n ≤ i → i < n + k → g i = 0) → fb_sm g (n + k) = fb_sm g n
  | 0, _ => rfl
  | k + 1, h => by
    show fb_sm g (n + k) + g (n + k) = _
    rw [h (n + k) (by omega) (by omega), fb_more k (fun i h1 h2 => h i h1 (by omega)), Nat.add_zero]
theorem smk_flue {A : AV} (hW : WV A) (S : AS) (f w b : Nat) : smk A S (aHs A f) w b = fb_sm (fun i => if aF A i = f then gv A (tF S i) (tL S i) w b else 0) (aC A 2) := by
  have h2 := hW.1.2.2.1
  unfold smk aHs
  rw [show (4 : Nat) = aC A 2 + (4 - aC A 2) by omega, fb_more]
  · refine fb_sm_cong (fun k hk => ?_)
    rw [bts_tb]
    by_cases c : aF A k = f
    · simp [c, hk]
    · simp [c]
  · intro i h1 h2
    rw [bts_tb]
    simp [show ¬ i < aC A 2 by omega]
section MS
variable {N : Nat} {A : AV} {S : AS} {J y : Nat}
theorem min9' {z n : Nat} (hz : z < 2 ^ 31) (hn : n < 2 ^ 31) : (if nI z < nI n then nI z else nI n) = nI (min z n) := by
  rw [ite_i (nI_ltI hz hn)]
  by_cases c : z < n
  · rw [if_pos c, Nat.min_eq_left (by omega)]
  · rw [if_neg c, Nat.min_eq_right (by omega)]
theorem m_sml (hT : WS A J S) (hJ : J < 2 ^ 30) {f b : Nat} (hf : f < 1000) (hb : b < 2) : ∀ (n i : Nat) (h : PH), aC A 2 < n + i → i ≤ aC A 2 → MA N h y A → RS (hI h (y + 37)) 0 S → ∃ h', f_X11_smokeOf_5 N n y (nI f) (nI b) (nI (fb_sm (fun i => if aF A i = f then gv A (tF S i) (tL S i) (aWind A (tH S)) b else 0) i)) (nI i) h = some (nI (smX A S (aHs A f) b), h') ∧ Ex (inM y) h h'
  | 0, i, h, h1, h2, _, _ => by omega
  | n + 1, i, h, h1, h2, p, hS => by
    obtain ⟨m, hC, hW, _⟩ := id p
    have h4 := hW.1.2.2.1
    have h3 := hW.1.2.1
    have bnd : fb_sm (fun i => if aF A i = f then gv A (tF S i) (tL S i) (aWind A (tH S)) b else 0) i ≤ i * 999 := fb_sm_bound (fun k _ => by
      show (if aF A k = f then _ else 0) ≤ 999
      split
      · exact gv_le hW _ _ _ _
      · omega)
    show ∃ h', f_X11_smokeOf_5_b N (f_X11_smokeOf_5 N n) y _ _ _ _ h = _ ∧ _
    unfold f_X11_smokeOf_5_b
    rw [ck_p m.1, mR_valley m, rq_s, ck_p (mK_valley m), mN_valley m, ck_p (by decide), hC.1 2 (by decide), ite_i (nI_leI (by omega) (by omega))]
    by_cases c : aC A 2 ≤ i
    · have e : i = aC A 2 := by omega
      subst e
      refine ⟨h, ?_, Ex.rf⟩
      rw [if_pos c, show (999 : Int32) = nI 999 from rfl, min9' (by omega) (by decide)]
      unfold smX
      rw [smk_flue hW]
    · have hi : inb (nI i) 8 := nI_ix (by omega) (by omega)
      have hx : ix (nI i) = i := ix_nI (by omega)
      have fl := hW.2.2.1 i (by omega)
      rw [if_neg c, mR_houseAt m, rq_s, ck_p (mK_houseAt m), mN_houseAt m, ck_p hi, hx, hC.2.2.1 i (by omega), ite_i (nI_eq (by omega) (by omega))]
      unfold f_X11_smokeOf_39
      by_cases g : aF A i = f
      · obtain ⟨h1', g1, g2⟩ := m_fireGives p hS hT hJ (i := i) (b := b) (by omega) hb
        obtain ⟨h', r1, r2⟩ := m_sml hT hJ hf hb n (i + 1) h1' (by omega) (by omega) (p.ex g2 (fun z z1 z2 z3 => by unfold inM at z3; omega)) (hS.ex g2 (by unfold inM; omega))
        refine ⟨h', ?_, g2.trans r2⟩
        rw [if_pos g, g1, cl_s, bd_e, bd_e, nI_add, nI_1]
        rw [fb_sm_succ, if_pos g] at r1
        exact r1
      · obtain ⟨h', r1, r2⟩ := m_sml hT hJ hf hb n (i + 1) h (by omega) (by omega) p hS
        refine ⟨h', ?_, r2⟩
        rw [if_neg g, bd_e, bd_e, nI_1, show ∀ z, nI z + (0 : Int32) = nI (z + 0) from fun z => nI_add z 0]
        rw [fb_sm_succ, if_neg g] at r1
        exact r1
theorem m_smokeOf (hN : 2000 ≤ N) {h : PH} (p : MA N h y A) (hS : RS (hI h (y + 37)) 0 S) (hT : WS A J S) (hJ : J < 2 ^ 30) {f b : Nat} (hf : f < 1000) (hb : b < 2) : ∃ h', f_X11_smokeOf N y (nI f) (nI b) h = some (nI (smX A S (aHs A f) b), h') ∧ Ex (inM y) h h' :=
  m_sml hT hJ hf hb N 0 h (by have := p.2.2.1.1.2.2.1; omega) (by omega) p hS
theorem m_sootBy {h : PH} (p : MA N h y A) (hS : RS (hI h (y + 37)) 0 S) (hT : WS A J S) (hJ : J < 2 ^ 30) {d s : Nat} (hd : d ≤ 999) (hs : s ≤ 999) : ∃ h', f_X11_sootBy N y (nI d) (nI s) h = some (nI (aO A d s (aWind A (tH S))), h') ∧ Ex (inM y) h h' := by
  obtain ⟨m, hC, hW, f0, t0, f1, t1, Wg, Ws, q1, q2, q3, q4, q5, q6, q7, q8, q9⟩ := id p
  have ht := hT.1
  unfold f_X11_sootBy f_X11_sootBy_53
  rw [ck_p m.1, mR_lineTo m, rq_s, ck_p (mK_lineTo m), mN_lineTo m, ck_p (by decide), mR_lineFrom m, rq_s, ck_p (mK_lineFrom m), mN_lineFrom m, ck_p (by decide), q4, q5, ite_i (nI_leI (by omega) (by omega))]
  by_cases c : t1 ≤ f1
  · have e := q9 d s (aWind A (tH S)) 0 0 hd hs (aWind_le hW _)
    rw [if_pos c] at e
    rw [if_pos c, m_between, cl_s, ← e]
    exact ⟨h, rfl, Ex.rf⟩
  · rw [if_neg c]
    have mm : inM y (y + 26) := ⟨by omega, by omega⟩
    rw [mR_valueOf m, rq_s, ck_p (mK_valueOf m), mN_valueOf m, ck_p (by decide), bd_e]
    have x1 : Ex (inM y) h (sI h (y + 26) 1 (nI d)) := Ex.sI mm
    generalize hh1 : sI h (y + 26) 1 (nI d) = ha at x1 ⊢
    have ea : hI ha (y + 26) 1 = nI d := by rw [← hh1, hI_sI_eq, va_eq]
    have pa := p.ex x1 (fun z z1 z2 z3 => by unfold inM at z3; omega)
    have ma := pa.1
    rw [ck_p ma.1, mR_valueOf ma, rq_s, ck_p (mK_valueOf ma), mN_valueOf ma, ck_p (by decide), bd_e]
    have x2 : Ex (inM y) ha (sI ha (y + 26) 2 (nI s)) := Ex.sI mm
    generalize hh2 : sI ha (y + 26) 2 (nI s) = hb' at x2 ⊢
    have eb1 : hI hb' (y + 26) 1 = nI d := by rw [← hh2, hI_sI_eq, va_ne (by decide), ea]
    have eb2 : hI hb' (y + 26) 2 = nI s := by rw [← hh2, hI_sI_eq, va_eq]
    have pb := pa.ex x2 (fun z z1 z2 z3 => by unfold inM at z3; omega)
    have mb := pb.1
    have hSb : RS (hI hb' (y + 37)) 0 S := hS.ex (x1.trans x2) (by unfold inM; omega)
    have e0 : hI hb' (y + 37) 0 = nI (tH S) := hSb.1
    rw [ck_p mb.1, mR_valueOf mb, rq_s, mR_s mb, rq_s, ck_p (mK_s mb), mN_s mb, ck_p (by decide), e0, m_windIn mb pb.2.1 hW (by omega), cl_s, ck_p (mK_valueOf mb), mN_valueOf mb, ck_p (by decide), bd_e]
    have x3 : Ex (inM y) hb' (sI hb' (y + 26) 3 (nI (aWind A (tH S)))) := Ex.sI mm
    generalize hh3 : sI hb' (y + 26) 3 (nI (aWind A (tH S))) = hc at x3 ⊢
    have ec1 : hI hc (y + 26) 1 = nI d := by rw [← hh3, hI_sI_eq, va_ne (by decide), eb1]
    have ec2 : hI hc (y + 26) 2 = nI s := by rw [← hh3, hI_sI_eq, va_ne (by decide), eb2]
    have ec3 : hI hc (y + 26) 3 = nI (aWind A (tH S)) := by rw [← hh3, hI_sI_eq, va_eq]
    have pc := pb.ex x3 (fun z z1 z2 z3 => by unfold inM at z3; omega)
    have xx := (x1.trans x2).trans x3
    obtain ⟨hg, w1, w2⟩ := q7 (by omega) hc (congrFun (xx.2.2.2 _ (by unfold inM; omega)) 1) (congrFun (xx.2.2.2 _ (by unfold inM; omega)) 1) (fun k _ => congrFun (xx.2.2.2 _ (by unfold inM; omega)) k) pc.1
    have w1 : f_X11_worked N y 1 hc = _ := w1
    have e := q9 d s (aWind A (tH S)) (hI hc (y + 26) 4) (hI hc (y + 26) 5) hd hs (aWind_le hW _)
    rw [if_neg c] at e
    rw [ck_p pc.1.1, w1, cl_s, m_between, cl_s, ec1, ec2, ec3, ← e]
    exact ⟨hg, rfl, xx.trans w2⟩
/-- a row at b stands for S: what is set in it -/
theorem m_lights {h : PH} (p : MA N h y A) (hS : RS (hI h (y + 37)) 0 S) (hT : WS A J S) {i f : Nat} (hi : i < 4) (hf : f < aC A 0) (hc : 0 < tT S (5 * i + f)) : ∃ h', f_X11_lights N y (nI i) (nI f) h = some ((), h') ∧ Ex (fun z => z = y + 37) h h' ∧ RS (hI h' (y + 37)) 0 (sLight A S i f) := by
  obtain ⟨m, hC, hW, _⟩ := id p
  have h5 := hW.1.1
  have ht := hT.2.2.1 (5 * i + f) (by omega)
  have e9 := hS.2.2.2.1 (5 * i + f) (by omega)
  rw [Nat.zero_add] at e9
  have n1 : (1 : Int32) + nI i = nI (1 + i) := nI_add 1 i
  have n5 : (5 : Int32) + nI i = nI (5 + i) := nI_add 5 i
  have i1 : inb (nI (9 + (5 * i + f))) 32 := nI_ix (by omega) (by omega)
  have i2 : inb (nI (1 + i)) 32 := nI_ix (by omega) (by omega)
  have i3 : inb (nI (5 + i)) 32 := nI_ix (by omega) (by omega)
  have i4 : inb (nI f) 10 := nI_ix (by omega) (by omega)
  have k1 : ix (nI (9 + (5 * i + f))) = 9 + (5 * i + f) := ix_nI (by omega)
  have k2 : ix (nI (1 + i)) = 1 + i := ix_nI (by omega)
  have k3 : ix (nI (5 + i)) = 5 + i := ix_nI (by omega)
  have k4 : ix (nI f) = f := ix_nI (by omega)
  have em : nI (tT S (5 * i + f)) - (1 : Int32) = nI (tT S (5 * i + f) - 1) := pk_sub (b := 1) (by omega)
  unfold f_X11_lights
  rw [m_ix, n1, n5, ck_p m.1, mR_s m, rq_s, bd_e, ck_p (mK_s m), mN_s m, ck_p i1, k1, e9, em, bd_e]
  have x1 : Ex (fun z => z = y + 37) h (sI h (y + 37) (9 + (5 * i + f)) (nI (tT S (5 * i + f) - 1))) := Ex.sI rfl
  generalize hh1 : sI h (y + 37) (9 + (5 * i + f)) (nI (tT S (5 * i + f) - 1)) = ha at x1 ⊢
  have ea : hI ha (y + 37) = va_up (hI h (y + 37)) (9 + (5 * i + f)) (nI (tT S (5 * i + f) - 1)) := by rw [← hh1, hI_sI_eq]
  have ma := m.sm x1.1
  rw [ck_p ma.1, mR_s ma, rq_s, ck_p (mK_s ma), mN_s ma, ck_p i2, k2, bd_e]
  have x2 : Ex (fun z => z = y + 37) ha (sI ha (y + 37) (1 + i) (nI f)) := Ex.sI rfl
  generalize hh2 : sI ha (y + 37) (1 + i) (nI f) = hb at x2 ⊢
  have eb : hI hb (y + 37) = va_up (hI ha (y + 37)) (1 + i) (nI f) := by rw [← hh2, hI_sI_eq]
  have mb := ma.sm x2.1
  have el : hI hb (y + 6) f = nI (aB A f) := by rw [(x1.trans x2).2.2.2 (y + 6) (by omega)]; exact (hC.2.1 f hf).2.2
  rw [ck_p mb.1, mR_s mb, rq_s, mR_fuelLong mb, rq_s, ck_p (mK_fuelLong mb), mN_fuelLong mb, ck_p i4, ck_p (mK_s mb), mN_s mb, ck_p i3, k3, k4, el, bd_e]
  refine ⟨_, rfl, (x1.trans x2).trans (Ex.sI rfl), ?_⟩
  rw [hI_sI_eq, eb, ea]
  refine ⟨?_, fun k hk => ?_, fun k hk => ?_, fun k hk => ?_, fun k hk => ?_⟩
  · rw [va_ne (by omega), va_ne (by omega), va_ne (by omega)]; exact hS.1
  · rw [va_ne (by omega)]
    show va_up _ _ _ (0 + 1 + k) = nI (va_up (tF S) i (f + 1) k) + (-1)
    by_cases q : k = i
    · rw [q, show 0 + 1 + i = 1 + i by omega, va_eq, va_eq, pk_m1]
    · rw [va_ne (by omega), va_ne (by omega), va_ne q]; exact hS.2.1 k hk
  · show va_up _ _ _ (0 + 5 + k) = nI (va_up (tL S) i (aB A f) k)
    by_cases q : k = i
    · rw [q, show 0 + 5 + i = 5 + i by omega, va_eq, va_eq]
    · rw [va_ne (by omega), va_ne (by omega), va_ne (by omega), va_ne q]; exact hS.2.2.1 k hk
  · rw [va_ne (by omega), va_ne (by omega)]
    show va_up _ _ _ (0 + 9 + k) = nI (va_up (tT S) (5 * i + f) _ k)
    by_cases q : k = 5 * i + f
    · rw [q, show 0 + 9 + (5 * i + f) = 9 + (5 * i + f) by omega, va_eq, va_eq]
    · rw [va_ne (by omega), va_ne q]; exact hS.2.2.2.1 k hk
  · rw [va_ne (by omega), va_ne (by omega), va_ne (by omega)]; exact hS.2.2.2.2 k hk
end MS
