/-! The duty of spell, the class's side: what the houses from one on can add at most. -/
def smR (A : AV) (S : AS) (x f : Nat) (h : PH) (j b : Nat) : Prop := hI h (x + 31 + 3) (4 * rkX (aHs A f) j + b) = nI (tlS (aHs A f) (mNw A S (aWind A (tH S)) b) (4 - j) j) ∧ hI h (x + 31 + 3) (4 * rkX (aHs A f) j + 2 + b) = nI (tlS (aHs A f) (mNx A S (aWind A (tH S + 1)) b) (4 - j) j)
def SM (A : AV) (S : AS) (x f : Nat) (h : PH) (j : Nat) : Prop := ∀ i, j ≤ i → i ≤ 4 → ∀ b, b < 2 → smR A S x f h i b
def adP (x v z : Nat) : Prop := z = x + 34 ∨ z = v + 13 ∨ z = v + 16 ∨ z = v + 17
section SPO
variable {N x J v f : Nat} {A : AV} {S : AS} {w1 w2 : Int32}
theorem ad_gx {h h' : PH} (g : Gx v h h') : Ex (adP x v) h h' := g.ex.mono (fun z hz => by unfold adP; omega)
theorem SM.row {h h' : PH} {j : Nat} (e : hI h' (x + 31 + 3) = hI h (x + 31 + 3)) (p : SM A S x f h j) : SM A S x f h' j := fun i h1 h2 b hb => by
  have := p i h1 h2 b hb
  unfold smR at this ⊢
  rw [e]
  exact this
theorem SM.gx {h h' : PH} {j : Nat} (hv : x + 37 ≤ v) (g : Gx v h h') (p : SM A S x f h j) : SM A S x f h' j := p.row (g.2.2.2 _ (by omega) (by omega) (by omega))
theorem rk_le {j i : Nat} (h : j ≤ i) : rkX (aHs A f) j ≤ rkX (aHs A f) i := by
  have := rkX_mono (aHs A f) (j := j) (i - j)
  rw [show j + (i - j) = i by omega] at this
  exact this
theorem c_ad1 (hB : 2000 ≤ N) (hv : x + 37 ≤ v) (hT : WS A J S) {j b : Nat} (hj : j < 4) (tj : (aHs A f).testBit j = true) (hb : b < 2) {h : PH} (sv : SV A S x v f w1 w2 h) (sm : SM A S x f h (j + 1)) (sb' : ∀ c, c < b → smR A S x f h j c) : ∃ h', (∀ K15 K21, f_X3_addUp_21_b N K15 K21 (x + 31) (nI (rkX (aHs A f) j)) (nI b) h = K21 (x + 31) (nI (rkX (aHs A f) j)) (nI (b + 1)) h') ∧ Ex (adP x v) h h' ∧ SV A S x v f w1 w2 h' ∧ SM A S x f h' (j + 1) ∧ ∀ c, c < b + 1 → smR A S x f h' j c := by
  obtain ⟨sp, ⟨r3, r4⟩, pv, hS, hC, ⟨q5, q6, q7, q8, q9⟩, hh⟩ := id sv
  have r44 := rkX_le (aHs A f) 4
  have r4j := rkX_lt hj tj
  have rs := rkX_s tj
  obtain ⟨s1, s2⟩ := sm (j + 1) (Nat.le_refl _) (by omega) b hb
  have rj : ∀ i, j + 1 ≤ i → i ≤ 4 → rkX (aHs A f) j + 1 ≤ rkX (aHs A f) i := fun i h1 _ => by
    rw [← rs]
    exact rk_le h1
  rw [rs] at s1 s2
  have e4 : (4 : Nat) - j = (4 - (j + 1)) + 1 := by omega
  generalize hr : rkX (aHs A f) j = r at *
  have i1 : nI r * (4 : Int32) + (4 : Int32) + (0 : Int32) + nI b = nI (4 * (r + 1) + b) := by
    rw [show (4 : Int32) = nI 4 from rfl, show (0 : Int32) = nI 0 from rfl, pk_mul, nI_add, nI_add, nI_add, show r * 4 + 4 + 0 + b = 4 * (r + 1) + b by omega]
  have i2 : nI r * (4 : Int32) + (0 : Int32) + nI b = nI (4 * r + b) := by
    rw [show (4 : Int32) = nI 4 from rfl, show (0 : Int32) = nI 0 from rfl, pk_mul, nI_add, nI_add, show r * 4 + 0 + b = 4 * r + b by omega]
  have i3 : nI r * (4 : Int32) + (4 : Int32) + (2 : Int32) + nI b = nI (4 * (r + 1) + 2 + b) := by
    rw [show (4 : Int32) = nI 4 from rfl, show (2 : Int32) = nI 2 from rfl, pk_mul, nI_add, nI_add, nI_add, show r * 4 + 4 + 2 + b = 4 * (r + 1) + 2 + b by omega]
  have i4 : nI r * (4 : Int32) + (2 : Int32) + nI b = nI (4 * r + 2 + b) := by
    rw [show (4 : Int32) = nI 4 from rfl, show (2 : Int32) = nI 2 from rfl, pk_mul, nI_add, nI_add, show r * 4 + 2 + b = 4 * r + 2 + b by omega]
  have jr : inb (nI r) 4 := nI_ix (by omega) (by decide)
  have xr : ix (nI r) = r := ix_nI (by omega)
  have hhj := hh j hj tj
  rw [hr] at hhj
  obtain ⟨ha, a1, a2, a3⟩ := c_mostNow (N := N) hB hv hT hj hb sv
  have sva := sv.gx hv a2 a3
  have ea : hI ha (x + 31 + 3) = hI h (x + 31 + 3) := a2.2.2.2 _ (by omega) (by omega) (by omega)
  obtain ⟨X, eX⟩ : ∃ X, X = tlS (aHs A f) (mNw A S (aWind A (tH S)) b) (4 - j) j := ⟨_, rfl⟩
  obtain ⟨Y, eY⟩ : ∃ Y, Y = tlS (aHs A f) (mNx A S (aWind A (tH S + 1)) b) (4 - j) j := ⟨_, rfl⟩
  have xX : nI (tlS (aHs A f) (mNw A S (aWind A (tH S)) b) (4 - (j + 1)) (j + 1)) + nI (mNw A S (aWind A (tH S)) b j) = nI X := by
    rw [eX, e4, tlS_yes tj, nI_add, Nat.add_comm]
  have xY : nI (tlS (aHs A f) (mNx A S (aWind A (tH S + 1)) b) (4 - (j + 1)) (j + 1)) + nI (mNx A S (aWind A (tH S + 1)) b j) = nI Y := by
    rw [eY, e4, tlS_yes tj, nI_add, Nat.add_comm]
  have E1 : Ex (adP x v) ha (sI ha (x + 31 + 3) (4 * r + b) (nI X)) := Ex.sI (by unfold adP; omega)
  have f1 : hI (sI ha (x + 31 + 3) (4 * r + b) (nI X)) (x + 31 + 3) = va_up (hI ha (x + 31 + 3)) (4 * r + b) (nI X) := hI_sI_eq
  have svb := sva.row (a := x + 31 + 3) (r := 4 * r + b) (c := nI X) hv (Or.inr rfl)
  have un1 : ∀ K15 K21, f_X3_addUp_21_b N K15 K21 (x + 31) (nI r) (nI b) h = (ck (hK (sI ha (x + 31 + 3) (4 * r + b) (nI X)) (x + 31) = 3) <| rq (hR (sI ha (x + 31 + 3) (4 * r + b) (nI X)) (x + 31) 2) fun a17 => rq (hR (sI ha (x + 31 + 3) (4 * r + b) (nI X)) (x + 31) 2) fun a18 => ck (hK (sI ha (x + 31 + 3) (4 * r + b) (nI X)) a18 = 12) <| ck (inb (nI (4 * (r + 1) + 2 + b)) (hN (sI ha (x + 31 + 3) (4 * r + b) (nI X)) a18)) <| rq (hR (sI ha (x + 31 + 3) (4 * r + b) (nI X)) (x + 31) 0) fun a21 => ck (hK (sI ha (x + 31 + 3) (4 * r + b) (nI X)) a21 = 12) <| ck (inb (nI r) (hN (sI ha (x + 31 + 3) (4 * r + b) (nI X)) a21)) <| cl (f_X3_mostNext N (x + 31) (hI (sI ha (x + 31 + 3) (4 * r + b) (nI X)) a21 (ix (nI r))) (nI b) (sI ha (x + 31 + 3) (4 * r + b) (nI X))) fun r24 h25 => ck (hK h25 a17 = 12) <| ck (inb (nI (4 * r + 2 + b)) (hN h25 a17)) <| bd (sI h25 a17 (ix (nI (4 * r + 2 + b))) ((hI (sI ha (x + 31 + 3) (4 * r + b) (nI X)) a18 (ix (nI (4 * (r + 1) + 2 + b)))) + r24)) fun h28 => bd (nI b + (1 : Int32)) fun v29 => K21 (x + 31) (nI r) v29 h28) := fun K15 K21 => by
    unfold f_X3_addUp_21_b
    rw [if_neg (show ¬ (1 : Int32) < nI b from nI_nlt (a := 1) (by omega) (by decide)), i1, i2, i3, i4, ck_p sp.1, sp.2.1.2.2, rq_s, rq_s, ck_p sp.2.2.2.2.1, sp.2.2.2.2.2, ck_p (nI_ix (by omega) (by decide)), sp.2.1.1, rq_s, ck_p sp.2.2.1.1, sp.2.2.1.2, ck_p jr, show hI h (x + 31 + 1) (ix (nI r)) = nI j by rw [xr]; exact hhj, a1, cl_s, ck_p sva.1.2.2.2.2.1, sva.1.2.2.2.2.2, ck_p (nI_ix (by omega) (by decide)), ix_nI (show 4 * r + b < 2 ^ 31 by omega), show hI h (x + 31 + 3) (ix (nI (4 * (r + 1) + b))) = nI (tlS (aHs A f) (mNw A S (aWind A (tH S)) b) (4 - (j + 1)) (j + 1)) by rw [ix_nI (by omega)]; exact s1, xX, bd_e]
  generalize sI ha (x + 31 + 3) (4 * r + b) (nI X) = hb1 at E1 f1 svb un1
  obtain ⟨hc, c1, c2, c3⟩ := c_mostNext (N := N) hB hv hT hj hb svb
  have svc := svb.gx hv c2 c3
  have ec : hI hc (x + 31 + 3) = hI hb1 (x + 31 + 3) := c2.2.2.2 _ (by omega) (by omega) (by omega)
  have hhb := svb.2.2.2.2.2.2 j hj tj
  rw [hr] at hhb
  have E2 : Ex (adP x v) hc (sI hc (x + 31 + 3) (4 * r + 2 + b) (nI Y)) := Ex.sI (by unfold adP; omega)
  have f2 : hI (sI hc (x + 31 + 3) (4 * r + 2 + b) (nI Y)) (x + 31 + 3) = va_up (hI hc (x + 31 + 3)) (4 * r + 2 + b) (nI Y) := hI_sI_eq
  have svd := svc.row (a := x + 31 + 3) (r := 4 * r + 2 + b) (c := nI Y) hv (Or.inr rfl)
  have v2 : hI hb1 (x + 31 + 3) (ix (nI (4 * (r + 1) + 2 + b))) = nI (tlS (aHs A f) (mNx A S (aWind A (tH S + 1)) b) (4 - (j + 1)) (j + 1)) := by
    rw [ix_nI (by omega), f1, va_ne (by omega), ea]
    exact s2
  have un2 : ∀ K15 K21, f_X3_addUp_21_b N K15 K21 (x + 31) (nI r) (nI b) h = K21 (x + 31) (nI r) (nI (b + 1)) (sI hc (x + 31 + 3) (4 * r + 2 + b) (nI Y)) := fun K15 K21 => by
    have spb := svb.1
    rw [un1, ck_p spb.1, spb.2.1.2.2, rq_s, rq_s, ck_p spb.2.2.2.2.1, spb.2.2.2.2.2, ck_p (nI_ix (by omega) (by decide)), spb.2.1.1, rq_s, ck_p spb.2.2.1.1, spb.2.2.1.2, ck_p jr, show hI hb1 (x + 31 + 1) (ix (nI r)) = nI j by rw [xr]; exact hhb, c1, cl_s, ck_p svc.1.2.2.2.2.1, svc.1.2.2.2.2.2, ck_p (nI_ix (by omega) (by decide)), ix_nI (show 4 * r + 2 + b < 2 ^ 31 by omega), v2, xY, bd_e, bd_e, nI_1]
  generalize sI hc (x + 31 + 3) (4 * r + 2 + b) (nI Y) = hd at E2 f2 svd un2
  have row : hI hd (x + 31 + 3) = va_up (va_up (hI h (x + 31 + 3)) (4 * r + b) (nI X)) (4 * r + 2 + b) (nI Y) := by rw [f2, ec, f1, ea]
  refine ⟨hd, un2, (((ad_gx a2).trans E1).trans (ad_gx c2)).trans E2, svd, fun i h1 h2 c hc' => ?_, fun c hc' => ?_⟩
  · have := sm i h1 h2 c hc'
    have := rj i h1 h2
    unfold smR at *
    rw [row, va_ne (by omega), va_ne (by omega), va_ne (by omega), va_ne (by omega)]
    assumption
  · unfold smR
    rw [hr, row]
    by_cases e : c = b
    · rw [e, va_ne (by omega), va_eq, va_eq, eX, eY]
      exact ⟨rfl, rfl⟩
    · have := sb' c (by omega)
      unfold smR at this
      rw [hr] at this
      rw [va_ne (by omega), va_ne (by omega), va_ne (by omega), va_ne (by omega)]
      exact this
theorem SM.down {h : PH} {j : Nat} (hj : j < 4) (tj : ¬ (aHs A f).testBit j = true) (p : SM A S x f h (j + 1)) : SM A S x f h j := fun i h1 h2 b hb => by
  by_cases e : i = j
  · have q := p (j + 1) (Nat.le_refl _) (by omega) b hb
    unfold smR at q ⊢
    rw [rkX_n tj] at q
    rw [e, show (4 : Nat) - j = (4 - (j + 1)) + 1 by omega, tlS_no tj, tlS_no tj]
    exact q
  · exact p i (by omega) h2 b hb
theorem SM.cons {h : PH} {j : Nat} (p : SM A S x f h (j + 1)) (q : ∀ b, b < 2 → smR A S x f h j b) : SM A S x f h j := fun i h1 h2 b hb => by
  by_cases e : i = j
  · rw [e]; exact q b hb
  · exact p i (by omega) h2 b hb
theorem c_ad15 (hN : 2000 ≤ N) (hv : x + 37 ≤ v) (hT : WS A J S) : ∀ (j n : Nat) (h : PH), j ≤ 4 → j < n → SV A S x v f w1 w2 h → SM A S x f h j → ∃ h', f_X3_addUp_15 N n (x + 31) (nI (rkX (aHs A f) j) + (-1)) h = some ((), h') ∧ Ex (adP x v) h h' ∧ SV A S x v f w1 w2 h' ∧ SM A S x f h' 0
  | 0, n, h, hj, hn, sv, sm => by
    obtain ⟨n, rfl⟩ : ∃ k, n = k + 1 := ⟨n - 1, by omega⟩
    refine ⟨h, ?_, Ex.rf, sv, sm⟩
    show f_X3_addUp_15_b N (f_X3_addUp_15 N n) (x + 31) _ h = _
    unfold f_X3_addUp_15_b
    rw [if_pos (show nI (rkX (aHs A f) 0) + (-1) < 0 by rw [show rkX (aHs A f) 0 = 0 from rfl]; decide)]
  | j + 1, n, h, hj, hn, sv, sm => by
    by_cases tj : (aHs A f).testBit j = true
    rotate_left
    · rw [rkX_n tj]
      exact c_ad15 hN hv hT j n h (by omega) (by omega) sv (sm.down (by omega) tj)
    obtain ⟨n, rfl⟩ : ∃ k, n = k + 1 := ⟨n - 1, by omega⟩
    obtain ⟨h1, a1, a2, a3, a4, a5⟩ := c_ad1 (N := N) hN hv hT (show j < 4 by omega) tj (b := 0) (by decide) sv sm (fun c hc => absurd hc (Nat.not_lt_zero c))
    obtain ⟨h2, b1, b2, b3, b4, b5⟩ := c_ad1 (N := N) hN hv hT (show j < 4 by omega) tj (b := 1) (by decide) a3 a4 a5
    have r44 := rkX_le (aHs A f) 4
    have r4j := rkX_lt (show j < 4 by omega) tj
    obtain ⟨h', t1, t2, t3, t4⟩ := c_ad15 hN hv hT j n h2 (by omega) (by omega) b3 (b4.cons b5)
    refine ⟨h', ?_, (a2.trans b2).trans t2, t3, t4⟩
    rw [rkX_s tj, pk_m1]
    show f_X3_addUp_15_b N (f_X3_addUp_15 N n) (x + 31) _ h = _
    unfold f_X3_addUp_15_b
    rw [if_neg (nI_pos (by omega)), show f_X3_addUp_21 N (f_X3_addUp_15 N n) N = f_X3_addUp_21 N (f_X3_addUp_15 N n) ((N - 3) + 1 + 1 + 1) from congrArg _ (by omega)]
    refine (a1 (f_X3_addUp_15 N n) (f_X3_addUp_21 N (f_X3_addUp_15 N n) ((N - 3) + 1 + 1))).trans ?_
    refine (b1 (f_X3_addUp_15 N n) (f_X3_addUp_21 N (f_X3_addUp_15 N n) ((N - 3) + 1))).trans ?_
    show f_X3_addUp_21_b N (f_X3_addUp_15 N n) (f_X3_addUp_21 N (f_X3_addUp_15 N n) (N - 3)) (x + 31) _ (nI 2) h2 = _
    unfold f_X3_addUp_21_b
    rw [if_pos (show (1 : Int32) < nI 2 by decide), bd_e]
    exact t1
theorem c_addUp (hN : 2001 ≤ N) (hv : x + 37 ≤ v) (hT : WS A J S) {h : PH} (sv : SV A S x v f w1 w2 h) : ∃ h', f_X3_addUp N (x + 31) h = some ((), h') ∧ Ex (adP x v) h h' ∧ SV A S x v f w1 w2 h' ∧ SM A S x f h' 0 := by
  have sp := sv.1
  have r44 := rkX_le (aHs A f) 4
  obtain ⟨h1, a1, a2, a3⟩ := c_fill hN (by decide) sp.2.2.2.2 (0 : Int32)
  have E1 : Ex (adP x v) h h1 := a2.mono (fun z hz => by unfold adP; omega)
  have sv1 : SV A S x v f w1 w2 h1 := by
    obtain ⟨p1, ⟨p2, p3⟩, p4, p5, p6, p7, p8⟩ := sv
    refine ⟨p1.sm a2.1, ⟨by rw [a2.1.2.2.1]; exact p2, by rw [a2.1.2.2.1]; exact p3⟩, p4.ex a2 (fun z z1 z2 => by omega), p5.sm a2.1, p6.ex a2 (fun z z1 z2 => by omega), ?_, ?_⟩
    · rw [a2.2.2.2 (x + 31) (by omega)]; exact p7
    · rw [a2.2.2.2 (x + 31 + 1) (by omega)]; exact p8
  obtain ⟨h', t1, t2, t3, t4⟩ := c_ad15 (N := N) (by omega) hv hT 4 N h1 (Nat.le_refl 4) (by omega) sv1 (fun i h1 h2 b hb => by
    have e : i = 4 := by omega
    subst e
    exact ⟨a3 _ (by omega), a3 _ (by omega)⟩)
  refine ⟨h', ?_, E1.trans t2, t3, t4⟩
  unfold f_X3_addUp
  have em : nI (rkX (aHs A f) 4) - (1 : Int32) = nI (rkX (aHs A f) 4) + (-1) := by
    by_cases c : rkX (aHs A f) 4 = 0
    · rw [c]; decide
    · obtain ⟨k, hk⟩ : ∃ k, rkX (aHs A f) 4 = k + 1 := ⟨rkX (aHs A f) 4 - 1, by omega⟩
      rw [hk, pk_m1, show (1 : Int32) = nI 1 from rfl, pk_sub (by omega), Nat.add_sub_cancel]
  rw [ck_p sp.1, sp.2.1.2.2, rq_s, a1, cl_s, ck_p sv1.1.1, sv1.2.2.2.2.2.1.1, em, bd_e]
  exact t1
end SPO
