/-! The class's walk: go. -/
def chY (A : AV) (S : AS) (i : Nat) : Nat → Nat
  | 0 => 2 ^ aC A 0
  | f + 1 => if tL S i = 0 ∧ 0 < tT S (5 * i + f) then chY A S i f ||| 2 ^ f else chY A S i f
section GO
variable {N : Nat} {A : AV} {S : AS} {x v : Nat}
theorem chY_bit (h5 : aC A 0 ≤ 5) {i : Nat} : ∀ m, m ≤ aC A 0 → ∀ g, (chY A S i m).testBit g = (decide (g = aC A 0) || (decide (g < m) && decide (tL S i = 0 ∧ 0 < tT S (5 * i + g))))
  | 0, _, g => by
    show (2 ^ aC A 0).testBit g = _
    rw [Nat.testBit_two_pow]
    by_cases c : g = aC A 0
    · simp [c]
    · simp [c, Ne.symm c]
  | m + 1, hm, g => by
    have ih := chY_bit h5 (i := i) m (by omega) g
    show (if tL S i = 0 ∧ 0 < tT S (5 * i + m) then chY A S i m ||| 2 ^ m else chY A S i m).testBit g = _
    by_cases c : tL S i = 0 ∧ 0 < tT S (5 * i + m)
    · rw [if_pos c, Nat.testBit_or, ih, Nat.testBit_two_pow]
      by_cases e : g = m
      · subst e
        simp [c]
      · have e2 : ¬ m = g := fun z => e z.symm
        have e3 : (g < m + 1) ↔ (g < m) := by omega
        simp [e2, e3]
    · rw [if_neg c, ih]
      by_cases e : g = m
      · subst e
        simp [c]
      · have e3 : (g < m + 1) ↔ (g < m) := by omega
        simp [e3]
theorem chY_lt (h5 : aC A 0 ≤ 5) {i : Nat} : ∀ m, m ≤ aC A 0 → chY A S i m < 64
  | 0, _ => by
    show 2 ^ aC A 0 < 2 ^ 6
    exact Nat.pow_lt_pow_right (by decide) (by omega)
  | m + 1, hm => by
    have ih := chY_lt h5 (i := i) m (by omega)
    show (if tL S i = 0 ∧ 0 < tT S (5 * i + m) then chY A S i m ||| 2 ^ m else chY A S i m) < 2 ^ 6
    split
    · exact Nat.or_lt_two_pow ih (Nat.pow_lt_pow_right (by decide) (by omega))
    · exact ih
theorem chY_al (h5 : aC A 0 ≤ 5) {i g : Nat} (hg : g < aC A 0) : (chY A S i (aC A 0)).testBit g = al A S i g := by
  rw [chY_bit h5 _ (Nat.le_refl _)]
  unfold al
  have a : ¬ g = aC A 0 := by omega
  have b : ¬ g = 5 := by omega
  simp [a, b, hg]
theorem c_cho {J i : Nat} {h : PH} (hi : i < 4) (wk : WK h (x + 23)) (r8 : hR h (x + 23) 8 = some (x + 3)) (mt : MT h (x + 3)) (cS : CS h (x + 3 + 1) S) (hT : WS A J S) (hW : WV A) : ∀ (n f : Nat), aC A 0 < n + f → f ≤ aC A 0 → f_X8_choicesOf_17 N n (x + 23) (nI i) (nI (aC A 0)) (nI (chY A S i f)) (nI f) h = some (nI (chY A S i (aC A 0)), h)
  | 0, f, h1, h2 => by omega
  | n + 1, f, h1, h2 => by
    have h5 := hW.1.1
    show f_X8_choicesOf_17_b N (f_X8_choicesOf_17 N n) (x + 23) _ _ _ _ h = _
    unfold f_X8_choicesOf_17_b
    rw [ite_i (nI_leI (by omega) (by omega))]
    by_cases c : aC A 0 ≤ f
    · rw [if_pos c, show f = aC A 0 by omega]
    · have ih := c_cho hi wk r8 mt cS hT hW n (f + 1) (by omega) (by omega)
      rw [show chY A S i (f + 1) = if tL S i = 0 ∧ 0 < tT S (5 * i + f) then chY A S i f ||| 2 ^ f else chY A S i f from rfl] at ih
      rw [if_neg c, ck_p wk.1, r8, rq_s, ck_p mt.1, mt.2.1.1, rq_s, ck_p mt.2.2.1.1, c_canLight mt.2.2.1 cS hT hi (by omega), cl_s]
      unfold f_X8_choicesOf_46
      by_cases b : tL S i = 0 ∧ 0 < tT S (5 * i + f)
      · rw [yesT b, if_neg one0, or6 _ (chY_lt h5 f h2) f (by omega), bd_e, bd_e, nI_1]
        rw [if_pos b] at ih
        exact ih
      · rw [yesF b, if_pos rfl, bd_e, nI_1]
        rw [if_neg b] at ih
        exact ih
theorem c_choicesOf (hN : 10 ≤ N) {J i : Nat} {h : PH} (hi : i < 4) (wk : WK h (x + 23)) (r7 : hR h (x + 23) 7 = some v) (r8 : hR h (x + 23) 8 = some (x + 3)) (mt : MT h (x + 3)) (pv : VA h v A) (cS : CS h (x + 3 + 1) S) (hT : WS A J S) : f_X8_choicesOf N (x + 23) (nI i) h = some (nI (chY A S i (aC A 0)), h) := by
  have hW := pv.2.2.1
  have h5 := hW.1.1
  unfold f_X8_choicesOf
  rw [ck_p wk.1, r7, rq_s, ck_p pv.1.1, vR_many pv.1, rq_s, ck_p (vK_many pv.1), vN_many pv.1, ck_p (by decide), pv.2.1.1 0 (by decide), bd_e, sh6 _ (by omega), bd_e]
  exact c_cho hi wk r8 mt cS hT hW N 0 (by omega) (by omega)
/-- a walk's choices: q - 1 is pinned to g, if q is not 0 -/
def bsQ (A : AV) (S : AS) (q g j : Nat) : Nat := if j + 1 = q then 2 ^ g else chY A S j (aC A 0)
def u0Q (q g : Nat) : Nat → Nat := fun j => if j + 1 = q then g else 5
/-- a walk on its way through the houses -/
def GoI (A : AV) (S : AS) (R : AR) (f q g : Nat) (mi : Bool) (x v i : Nat) (h : PH) : Prop := MT h (x + 3) ∧ WK h (x + 23) ∧ VA h v A ∧ CS h (x + 3 + 1) S ∧ CR h (x + 3) R ∧ hR h (x + 23) 7 = some v ∧ hR h (x + 23) 8 = some (x + 3) ∧ hI h (x + 23) 9 = yb mi ∧ hI h (x + 23) 10 = nI f ∧ hI h (x + 23) 11 = nI (rkX (noF A S f) i) ∧ hI h (x + 23) 12 = nI (aWind A (tH S)) ∧ (∀ j, 13 ≤ j → j ≤ 16 → hI h (x + 23) j = 0) ∧ (∀ d, d < 1000 → hI h (x + 23 + 5) d = 0 ∧ hI h (x + 23 + 6) d = 0) ∧ (∀ d, d < 7 → hI h (x + 23 + 7) d = 0) ∧ ∀ j, j < i → (noF A S f).testBit j = true → hI h (x + 23 + 1) (rkX (noF A S f) j) = nI j ∧ hI h (x + 23 + 2) (rkX (noF A S f) j) = nI (bsQ A S q g j)
theorem rkX_hi {V n : Nat} : ∀ k, (∀ j, n ≤ j → j < n + k → ¬ V.testBit j = true) → rkX V (n + k) = rkX V n
  | 0, _ => rfl
  | k + 1, h => by
    show rkX V (n + k) + (if V.testBit (n + k) = true then 1 else 0) = _
    rw [if_neg (h (n + k) (by omega) (by omega)), rkX_hi k (fun j h1 h2 => h j h1 (by omega))]
    rfl
def wkR (x v z : Nat) : Prop := (x + 23 ≤ z ∧ z ≤ x + 30) ∨ z = v + 13 ∨ z = v + 16 ∨ z = v + 17
theorem c_go82 (hN : 5000 ≤ N) {f q g J : Nat} {R : AR} {mi : Bool} {pi pf : Int32} (hv : x + 43 ≤ v) (hf : f < 1000) (hW : WV A) (hT : WS A J S) (hJ : J < 2 ^ 30) (wR : WR A R) (hpi : pi = nI q + (-1)) (hpf : q ≠ 0 → pf = nI g) (hq : q ≤ 4) (hg : g < 6) (hgF : q ≠ 0 → g < aC A 0) {X : Nat} (hX : ∀ j, X.testBit j = true ↔ ((noF A S f).testBit j = true ∧ j + 1 ≠ q)) : ∀ (n i : Nat) (h : PH), aC A 2 < n + i → i ≤ aC A 2 → GoI A S R f q g mi x v i h → ∃ h', f_X8_go_82 N n (x + 23) v (x + 3) (nI f) pi pf (nI i) h = some ((), h') ∧ Ex (wkR x v) h h' ∧ WFx A R f (noF A S f) (aWind A (tH S)) mi (fun j => nI (bsQ A S q g j)) h' x v ∧ WAc A S f (noF A S f) h' x (takeL (tkB A S R f mi) (ws X (al A S) 4 0 (u0Q q g)) [])
  | 0, i, h, h1, h2, _ => by omega
  | n + 1, i, h, h1, h2, gi => by
    have h5 := hW.1.1
    have h4 := hW.1.2.2.1
    have h3 := hW.1.2.1
    obtain ⟨mt, wk, pv, cS, cR, r7, r8, e9, e10, e11, e12, e13, erow, erow2, erow3⟩ := id gi
    show ∃ h', f_X8_go_82_b N (f_X8_go_82 N n) (x + 23) v (x + 3) _ _ _ _ h = _ ∧ _
    unfold f_X8_go_82_b
    rw [ck_p pv.1.1, vR_many pv.1, rq_s, ck_p (vK_many pv.1), vN_many pv.1, ck_p (by decide), pv.2.1.1 2 (by decide), ite_i (nI_leI (by omega) (by omega))]
    by_cases c : aC A 2 ≤ i
    · have e : i = aC A 2 := by omega
      subst e
      have djs : Dj (x + 3 + 1) v := by unfold Dj; omega
      have r4 : rkX (noF A S f) (aC A 2) = rkX (noF A S f) 4 := by
        have := rkX_hi (V := noF A S f) (n := aC A 2) (4 - aC A 2) (fun j h1 h2 z => by have := (noF_b.mp z).1; omega)
        rw [show aC A 2 + (4 - aC A 2) = 4 by omega] at this
        exact this.symm
      obtain ⟨ha, a1, a2, a3⟩ := c_smoke (N := N) (by omega) djs pv mt.2.2.1 cS hT hJ (aHs_lt hW f) (b := 0) (by decide)
      have mta := mt.sm a2.1
      obtain ⟨hb, b1, b2, b3⟩ := c_smoke (N := N) (by omega) djs a3 mta.2.2.1 (cS.gx djs a2) hT hJ (aHs_lt hW f) (b := 1) (by decide)
      have a1 : f_X4_smoke N (x + 3 + 1) v (nI (aHs A f)) 0 h = _ := a1
      have b1 : f_X4_smoke N (x + 3 + 1) v (nI (aHs A f)) 1 ha = _ := b1
      have g2 := a2.trans b2
      have oth : ∀ z, z < x + 43 → hI hb z = hI h z := fun z hz => g2.2.2.2 z (by omega) (by omega) (by omega)
      have wf : WFx A R f (noF A S f) (aWind A (tH S)) mi (fun j => nI (bsQ A S q g j)) hb x v := by
        refine ⟨wk.sm g2.1, mt.sm g2.1, b3, ?_, by rw [g2.1.2.2.1]; exact r7, by rw [g2.1.2.2.1]; exact r8, by rw [oth _ (by omega)]; exact e9, by rw [oth _ (by omega)]; exact e10, by rw [oth _ (by omega), e11, r4], by rw [oth _ (by omega)]; exact e12, fun j hj t => ?_⟩
        · unfold CR at cR ⊢
          rw [oth _ (by omega), oth _ (by omega), oth _ (by omega), oth _ (by omega)]
          exact cR
        · rw [oth _ (by omega), oth _ (by omega)]
          exact erow3 j (noF_b.mp t).1 t
      have wa : WAc A S f (noF A S f) hb x [] := by
        unfold WAc
        rw [oth _ (by omega), oth _ (by omega), oth _ (by omega), oth _ (by omega), oth _ (by omega)]
        exact ⟨e13 13 (by decide) (by decide), fun d hd => (erow d (by omega)).1, fun d hd => (erow d (by omega)).2, fun d hd => erow2 d (by omega), e13 14 (by decide) (by decide), e13 15 (by decide) (by decide), e13 16 (by decide) (by decide), fun j hj t ne => absurd rfl ne⟩
      have okU0 : okU A (u0Q q g) := fun j hj => by
        unfold u0Q
        by_cases z : j + 1 = q
        · rw [if_pos z]; exact Or.inr (hgF (by omega))
        · rw [if_neg z]; exact Or.inl rfl
      obtain ⟨h', c1, c2⟩ := c_ch (N := N) (S := S) (J := J) (X := X) (bs := bsQ A S q g) (mi := mi) (by omega) hv hf rfl hW hT wR rfl (fun j t => ((hX j).mp t).1) (fun j hj t => by
        unfold bsQ
        by_cases z : j + 1 = q
        · rw [if_pos z]
          exact (Nat.pow_lt_pow_right (by decide) hg : 2 ^ g < 2 ^ 6)
        · rw [if_neg z]; exact chY_lt h5 _ (Nat.le_refl _)) (fun j hj t => by
        have nq := ((hX j).mp t).2
        unfold bsQ
        rw [if_neg nq]
        refine ⟨fun g hg => chY_al h5 hg, ?_⟩
        rw [chY_bit h5 _ (Nat.le_refl _)]
        simp) 4 0 40 (u0Q q g) [] hb rfl (by decide) (fun j _ hj t nx => by
        have ez : j + 1 = q := by
          by_cases z : j + 1 = q
          · exact z
          · have := (hX j).mpr ⟨t, z⟩
            rw [nx] at this
            exact absurd this (by decide)
        unfold u0Q bsQ
        rw [if_pos ez, if_pos ez]
        refine ⟨hgF (by omega), fun k hk => ?_⟩
        rw [Nat.testBit_two_pow, decide_eq_true_eq]
        exact eq_comm) okU0 wf wa (fun z hz => absurd hz (by simp)) (fun j hj _ => absurd hj (Nat.not_lt_zero j)) (by
        have := ws_len (X := X) (p := al A S) 4 0 (u0Q q g)
        rw [List.length_nil]
        have e6 : 6 ^ 4 = 1296 := rfl
        omega)
      have c1 : f_X8_choose 40 N (x + 23) 0 (nI (smX A S (aHs A f) 0)) (nI (smX A S (aHs A f) 1)) hb = _ := c1
      refine ⟨h', ?_, (g2.ex.mono (fun z hz => by unfold wkR; omega)).trans (c2.1.mono (fun z hz => by unfold wkP at hz; unfold wkR; omega)), c2.2.1, c2.2.2.1⟩
      rw [if_pos c, c_housesAt (by omega) pv.1 pv.2.1 hW hf, cl_s, ck_p mt.1, mt.2.1.1, rq_s, ck_p mt.2.2.1.1, a1, cl_s, ck_p mta.1, mta.2.1.1, rq_s, ck_p mta.2.2.1.1, b1, cl_s, ck_p wf.1.1, c1, cl_s]
    · have fl := hW.2.2.1 i (by omega)
      rw [if_neg c, vR_flue pv.1, rq_s, ck_p (vK_flue pv.1), vN_flue pv.1, ck_p (nI_ix (by omega) (by decide)), ix_nI (by omega), pv.2.1.2.2.2.1 i (by omega), ite_i (nI_eq (by omega) (by omega))]
      have skip : ¬ (noF A S f).testBit i = true → ∃ h', f_X8_go_166 N (f_X8_go_82 N n) (x + 23) v (x + 3) (nI f) pi pf (nI i) h = some ((), h') ∧ Ex (wkR x v) h h' ∧ WFx A R f (noF A S f) (aWind A (tH S)) mi (fun j => nI (bsQ A S q g j)) h' x v ∧ WAc A S f (noF A S f) h' x (takeL (tkB A S R f mi) (ws X (al A S) 4 0 (u0Q q g)) []) := fun t => by
        unfold f_X8_go_166
        rw [bd_e, nI_1]
        have ri : rkX (noF A S f) (i + 1) = rkX (noF A S f) i := by
          show rkX (noF A S f) i + (if (noF A S f).testBit i = true then 1 else 0) = _
          rw [if_neg t]
          rfl
        exact c_go82 hN hv hf hW hT hJ wR hpi hpf hq hg hgF hX n (i + 1) h (by omega) (by omega) ⟨mt, wk, pv, cS, cR, r7, r8, e9, e10, by rw [ri]; exact e11, e12, e13, erow, erow2, fun j hj tj => erow3 j (by
          by_cases z : j = i
          · rw [z] at tj; exact absurd tj t
          · omega) tj⟩
      by_cases ef : aF A i = f
      · rw [if_pos ef, ck_p mt.1, mt.2.1.1, rq_s, ck_p mt.2.2.1.1, c_burns mt.2.2.1 cS hT (by omega), cl_s, ite_i yes0]
        by_cases tl : 0 < tL S i
        · rw [if_neg (fun z => z tl)]
          exact skip (fun z => by have := (noF_b.mp z).2.2; omega)
        · have t : (noF A S f).testBit i = true := noF_b.mpr ⟨by omega, ef, by omega⟩
          have rl := rkX_le (noF A S f) i
          have rs := rkX_s (k := i) t
          have jr : inb (nI (rkX (noF A S f) i)) 4 := nI_ix (by omega) (by decide)
          have xr : ix (nI (rkX (noF A S f) i)) = rkX (noF A S f) i := ix_nI (by omega)
          rw [if_pos tl, ck_p wk.1, wk.2.1.1, rq_s, ck_p wk.2.2.1.1, wk.2.2.1.2, e11, ck_p jr, xr, bd_e]
          have y0 : Ex (wkR x v) h (sI h (x + 23 + 1) (rkX (noF A S f) i) (nI i)) := Ex.sI (by unfold wkR; omega)
          have f0 : hI (sI h (x + 23 + 1) (rkX (noF A S f) i) (nI i)) (x + 23 + 1) = va_up (hI h (x + 23 + 1)) (rkX (noF A S f) i) (nI i) := hI_sI_eq
          have g0 : ∀ z, z ≠ x + 23 + 1 → hI (sI h (x + 23 + 1) (rkX (noF A S f) i) (nI i)) z = hI h z := fun z hz => hI_sI_ne hz
          generalize sI h (x + 23 + 1) (rkX (noF A S f) i) (nI i) = h0 at y0 f0 g0
          have wk0 := wk.sm y0.1
          have mt0 := mt.sm y0.1
          have pv0 : VA h0 v A := pv.ex (P := fun z => z = x + 23 + 1) ⟨y0.1, y0.2.1, y0.2.2.1, fun z hz => g0 z hz⟩ (fun z z1 z2 z3 => by omega)
          have cS0 : CS h0 (x + 3 + 1) S := cS.ex (P := fun z => z = x + 23 + 1) ⟨y0.1, y0.2.1, y0.2.2.1, fun z hz => g0 z hz⟩ (fun z z1 z2 z3 => by omega)
          have e110 : hI h0 (x + 23) 11 = nI (rkX (noF A S f) i) := by rw [g0 _ (by omega)]; exact e11
          have r70 : hR h0 (x + 23) 7 = some v := by rw [y0.1.2.2.1]; exact r7
          have r80 : hR h0 (x + 23) 8 = some (x + 3) := by rw [y0.1.2.2.1]; exact r8
          -- the choices are written
          have put : ∀ b : Nat, b = bsQ A S q g i → ∃ h', f_X8_go_155 N (f_X8_go_82 N n) (nI b) (nI (rkX (noF A S f) i)) (x + 23 + 2) (x + 23) v (x + 3) (nI f) pi pf (nI i) h0 = some ((), h') ∧ Ex (wkR x v) h h' ∧ WFx A R f (noF A S f) (aWind A (tH S)) mi (fun j => nI (bsQ A S q g j)) h' x v ∧ WAc A S f (noF A S f) h' x (takeL (tkB A S R f mi) (ws X (al A S) 4 0 (u0Q q g)) []) := fun b hb => by
            unfold f_X8_go_155
            have y1 : Ex (wkR x v) h0 (sI h0 (x + 23 + 2) (rkX (noF A S f) i) (nI b)) := Ex.sI (by unfold wkR; omega)
            have f1 : hI (sI h0 (x + 23 + 2) (rkX (noF A S f) i) (nI b)) (x + 23 + 2) = va_up (hI h0 (x + 23 + 2)) (rkX (noF A S f) i) (nI b) := hI_sI_eq
            have g1 : ∀ z, z ≠ x + 23 + 2 → hI (sI h0 (x + 23 + 2) (rkX (noF A S f) i) (nI b)) z = hI h0 z := fun z hz => hI_sI_ne hz
            rw [ck_p wk0.2.2.2.1.1, wk0.2.2.2.1.2, ck_p jr, xr, bd_e]
            generalize sI h0 (x + 23 + 2) (rkX (noF A S f) i) (nI b) = h1' at y1 f1 g1
            have wk1 := wk0.sm y1.1
            have y2 : Ex (wkR x v) h1' (sI h1' (x + 23) 11 (nI (rkX (noF A S f) i + 1))) := Ex.sI (by unfold wkR; omega)
            have f2 : hI (sI h1' (x + 23) 11 (nI (rkX (noF A S f) i + 1))) (x + 23) = va_up (hI h1' (x + 23)) 11 (nI (rkX (noF A S f) i + 1)) := hI_sI_eq
            have g2 : ∀ z, z ≠ x + 23 → hI (sI h1' (x + 23) 11 (nI (rkX (noF A S f) i + 1))) z = hI h1' z := fun z hz => hI_sI_ne hz
            rw [ck_p wk1.1, g1 _ (by omega), e110, nI_1, bd_e]
            generalize sI h1' (x + 23) 11 (nI (rkX (noF A S f) i + 1)) = h2' at y2 f2 g2
            have Y := (y0.trans y1).trans y2
            have oth : ∀ z, z ≠ x + 23 → z ≠ x + 23 + 1 → z ≠ x + 23 + 2 → hI h2' z = hI h z := fun z z1 z2 z3 => by rw [g2 z z1, g1 z z3, g0 z z2]
            have sl : ∀ j, j ≠ 11 → hI h2' (x + 23) j = hI h (x + 23) j := fun j hj => by rw [f2, va_ne hj, g1 _ (by omega), g0 _ (by omega)]
            have E3 : Ex (fun z => z = x + 23 ∨ z = x + 23 + 1 ∨ z = x + 23 + 2) h h2' := ⟨Y.1, Y.2.1, Y.2.2.1, fun z hz => oth z (fun e => hz (Or.inl e)) (fun e => hz (Or.inr (Or.inl e))) (fun e => hz (Or.inr (Or.inr e)))⟩
            obtain ⟨h', r1, r2, r3, r4⟩ := c_go82 hN hv hf hW hT hJ wR hpi hpf hq hg hgF hX n (i + 1) h2' (by omega) (by omega) ⟨mt.sm Y.1, wk.sm Y.1, pv.ex E3 (fun z z1 z2 z3 => by omega), cS.ex E3 (fun z z1 z2 z3 => by omega), by
              unfold CR at cR ⊢
              rw [oth _ (by omega) (by omega) (by omega), oth _ (by omega) (by omega) (by omega), oth _ (by omega) (by omega) (by omega), oth _ (by omega) (by omega) (by omega)]
              exact cR, by rw [Y.1.2.2.1]; exact r7, by rw [Y.1.2.2.1]; exact r8, by rw [sl 9 (by decide)]; exact e9, by rw [sl 10 (by decide)]; exact e10, by rw [f2, va_eq, rs], by rw [sl 12 (by decide)]; exact e12, fun j j1 j2 => by rw [sl j (by omega)]; exact e13 j j1 j2, fun d hd => by rw [oth _ (by omega) (by omega) (by omega), oth _ (by omega) (by omega) (by omega)]; exact erow d hd, fun d hd => by rw [oth _ (by omega) (by omega) (by omega)]; exact erow2 d hd, fun j hj tj => by
              rw [g2 _ (by omega), g2 _ (by omega), g1 (x + 23 + 1) (by omega), f0, f1]
              by_cases z : j = i
              · rw [z, va_eq, va_eq, hb]
                exact ⟨rfl, rfl⟩
              · have nr : rkX (noF A S f) j ≠ rkX (noF A S f) i := fun q => z (rkX_inj tj t q)
                rw [va_ne nr, va_ne nr, g0 _ (by omega)]
                exact erow3 j (by omega) tj⟩
            refine ⟨h', ?_, Y.trans r2, r3, r4⟩
            unfold f_X8_go_166
            rw [bd_e, nI_1]
            exact r1
          have ep : nI i = pi ↔ i + 1 = q := by
            rw [hpi]
            have : ∀ q, q ≤ 4 → ∀ i, i < 4 → (nI i = nI q + (-1 : Int32) ↔ i + 1 = q) := by decide +kernel
            exact this q hq i (by omega)
          rw [ck_p wk0.1, wk0.2.1.2.1, rq_s, e110, ite_i ep]
          by_cases z : i + 1 = q
          · rw [if_pos z, show ((1 : Int32) <<< (pf &&& 31)) = nI (2 ^ g) by rw [hpf (by omega), sh6 g hg]]
            exact put (2 ^ g) (by unfold bsQ; rw [if_pos z])
          · rw [if_neg z, c_choicesOf (by omega) (by omega) wk0 r70 r80 mt0 pv0 cS0 hT, cl_s]
            exact put _ (by unfold bsQ; rw [if_neg z])
      · rw [if_neg ef]
        exact skip (fun z => ef (noF_b.mp z).2.1)
theorem up2R (h : PH) (a k : Nat) (u : Option Nat) {b j : Nat} (q : b ≠ a ∨ j ≠ k) : hR (sR h a k u) b j = hR h b j := by
  rw [hR_sR]
  by_cases c : b = a
  · subst c; exact up2_k _ _ _ (by omega)
  · exact congrFun (up2_a _ _ _ c) j
theorem up2Rs (h : PH) (a k : Nat) (u : Option Nat) : hR (sR h a k u) a k = u := by rw [hR_sR]; exact up2_self _ _ _ _
theorem WK.sR {h : PH} {k j : Nat} {u : Option Nat} (hj : 7 ≤ j) (p : WK h k) : WK (sR h k j u) k := by
  obtain ⟨p1, ⟨r0, r1, r2, r3, r4, r5, r6⟩, rest⟩ := p
  refine ⟨p1, ⟨?_, ?_, ?_, ?_, ?_, ?_, ?_⟩, rest⟩ <;> rw [up2R _ _ _ _ (Or.inr (by omega))] <;> assumption
theorem c_go (hN : 5000 ≤ N) {f q g J : Nat} {M : AM} {w : Nat} {mi : Bool} {pi pf : Int32} {h : PH} (hf : f < 1000) (ob : OB h x v w) (pv : VA h v A) (cM : CM h (x + 3) M) (wM : WM A J M) (hJ : J < 2 ^ 30) (hpi : pi = nI q + (-1)) (hpf : q ≠ 0 → pf = nI g) (hq : q ≤ 4) (hg : g < 6) (hgF : q ≠ 0 → g < aC A 0) {X : Nat} (hX : ∀ j, X.testBit j = true ↔ ((noF A M.1 f).testBit j = true ∧ j + 1 ≠ q)) (e9 : hI h (x + 23) 9 = yb mi) : ∃ h', f_X8_go N (x + 23) v (x + 3) (nI f) pi pf h = some ((), h') ∧ Kx x (fun z => ¬ wkR x v z) h h' ∧ WFx A M.2.2 f (noF A M.1 f) (aWind A (tH M.1)) mi (fun j => nI (bsQ A M.1 q g j)) h' x v ∧ WAc A M.1 f (noF A M.1 f) h' x (takeL (tkB A M.1 M.2.2 f mi) (ws X (al A M.1) 4 0 (u0Q q g)) []) := by
  have hW := pv.2.2.1
  have vw := ob.1
  have hh := wM.1.1
  -- what it looks at is written
  have s1 : Shp x h (sR h (x + 23) 7 (some v)) := Shp.sR (Or.inr (Or.inl ⟨rfl, by omega⟩))
  have s2 : Shp x (sR h (x + 23) 7 (some v)) (sR (sR h (x + 23) 7 (some v)) (x + 23) 8 (some (x + 3))) := Shp.sR (Or.inr (Or.inl ⟨rfl, by omega⟩))
  have sh := s1.trans s2
  have k2 : Kx x (fun z => ¬ wkR x v z) h (sR (sR h (x + 23) 7 (some v)) (x + 23) 8 (some (x + 3))) := ⟨sh, fun z _ => ⟨rfl, rfl⟩⟩
  have r7 : hR (sR (sR h (x + 23) 7 (some v)) (x + 23) 8 (some (x + 3))) (x + 23) 7 = some v := by rw [up2R _ _ _ _ (Or.inr (by decide)), up2Rs]
  have r8 : hR (sR (sR h (x + 23) 7 (some v)) (x + 23) 8 (some (x + 3))) (x + 23) 8 = some (x + 3) := up2Rs _ _ _ _
  have ob2 : OB (sR (sR h (x + 23) 7 (some v)) (x + 23) 8 (some (x + 3))) x v w := ob.shp sh
  have ob1 : OB (sR h (x + 23) 7 (some v)) x v w := ob.shp s1
  have kA : Kx x (fun _ => True) h (sR (sR h (x + 23) 7 (some v)) (x + 23) 8 (some (x + 3))) := ⟨sh, fun z _ => ⟨rfl, rfl⟩⟩
  have pv2 : VA (sR (sR h (x + 23) 7 (some v)) (x + 23) 8 (some (x + 3))) v A := pv.kx kA (fun _ _ _ => trivial) (by have := ob.2.1; omega) (by omega)
  have cM2 : CM (sR (sR h (x + 23) 7 (some v)) (x + 23) 8 (some (x + 3))) (x + 3) M := cM.kx kA (fun _ _ _ => trivial)
  have e92 : hI (sR (sR h (x + 23) 7 (some v)) (x + 23) 8 (some (x + 3))) (x + 23) 9 = yb mi := e9
  unfold f_X8_go
  rw [ck_p ob.wk.1, bd_e, ck_p ob1.wk.1, bd_e]
  generalize sR (sR h (x + 23) 7 (some v)) (x + 23) 8 (some (x + 3)) = g0 at k2 r7 r8 ob2 pv2 cM2 e92 ⊢
  have wk0 := ob2.wk
  have mt0 := ob2.mt
  have st0 := ob2.st
  -- the flue
  rw [ck_p wk0.1, bd_e]
  have y1 : Ex (fun z => z = x + 23) g0 (sI g0 (x + 23) 10 (nI f)) := Ex.sI rfl
  have f1 : hI (sI g0 (x + 23) 10 (nI f)) (x + 23) = va_up (hI g0 (x + 23)) 10 (nI f) := hI_sI_eq
  generalize sI g0 (x + 23) 10 (nI f) = g1 at y1 f1 ⊢
  have pv1 := pv2.ex y1 (fun z z1 z2 z3 => by omega)
  have mt1 := mt0.sm y1.1
  have hr1 : hI g1 (x + 3 + 1) 0 = nI (tH M.1) := by rw [y1.2.2.2 _ (by omega)]; exact cM2.1.1
  rw [ck_p mt1.1, mt1.2.1.1, rq_s, ck_p mt1.2.2.1.1, ck_p pv1.1.1, hr1, c_windAt pv1.1 pv1.2.1 hW (by omega), cl_s, ck_p (wk0.sm y1.1).1, bd_e]
  -- wind, and the counts
  have y2 : Ex (fun z => z = x + 23) g1 (sI (sI (sI (sI (sI g1 (x + 23) 12 (nI (aWind A (tH M.1)))) (x + 23) 13 0) (x + 23) 14 0) (x + 23) 15 0) (x + 23) 16 0) := ((((Ex.sI (P := fun z => z = x + 23) rfl).trans (Ex.sI (P := fun z => z = x + 23) rfl)).trans (Ex.sI (P := fun z => z = x + 23) rfl)).trans (Ex.sI (P := fun z => z = x + 23) rfl)).trans (Ex.sI (P := fun z => z = x + 23) rfl)
  have f2 : hI (sI (sI (sI (sI (sI g1 (x + 23) 12 (nI (aWind A (tH M.1)))) (x + 23) 13 0) (x + 23) 14 0) (x + 23) 15 0) (x + 23) 16 0) (x + 23) = va_up (va_up (va_up (va_up (va_up (hI g1 (x + 23)) 12 (nI (aWind A (tH M.1)))) 13 0) 14 0) 15 0) 16 0 := by rw [hI_sI_eq, hI_sI_eq, hI_sI_eq, hI_sI_eq, hI_sI_eq]
  have kk : ∀ a b c d e : Int32, hK (sI g1 (x + 23) 12 a) (x + 23) = 8 ∧ hK (sI (sI g1 (x + 23) 12 a) (x + 23) 13 b) (x + 23) = 8 ∧ hK (sI (sI (sI g1 (x + 23) 12 a) (x + 23) 13 b) (x + 23) 14 c) (x + 23) = 8 ∧ hK (sI (sI (sI (sI g1 (x + 23) 12 a) (x + 23) 13 b) (x + 23) 14 c) (x + 23) 15 d) (x + 23) = 8 := fun a b c d e => ⟨(wk0.sm y1.1).1, (wk0.sm y1.1).1, (wk0.sm y1.1).1, (wk0.sm y1.1).1⟩
  rw [ck_p (kk _ 0 0 0 0).1, bd_e, ck_p (kk _ _ 0 0 0).2.1, bd_e, ck_p (kk _ _ _ 0 0).2.2.1, bd_e, ck_p (kk _ _ _ _ 0).2.2.2, bd_e]
  generalize sI (sI (sI (sI (sI g1 (x + 23) 12 (nI (aWind A (tH M.1)))) (x + 23) 13 0) (x + 23) 14 0) (x + 23) 15 0) (x + 23) 16 0 = g2 at y2 f2 ⊢
  have wk2 := (wk0.sm y1.1).sm y2.1
  obtain ⟨g3, r3, y3, v3⟩ := c_fill (N := N) (by omega) (h := g2) (a := x + 23 + 5) (n0 := 1000) (by decide) wk2.2.2.2.2.2.2.1 0
  have wk3 := wk2.sm y3.1
  obtain ⟨g4, r4, y4, v4⟩ := c_fill (N := N) (by omega) (h := g3) (a := x + 23 + 6) (n0 := 1000) (by decide) wk3.2.2.2.2.2.2.2.1 0
  have wk4 := wk3.sm y4.1
  obtain ⟨g5, r5, y5, v5⟩ := c_fill (N := N) (by omega) (h := g4) (a := x + 23 + 7) (n0 := 7) (by decide) wk4.2.2.2.2.2.2.2.2 0
  have wk5 := wk4.sm y5.1
  rw [ck_p wk2.1, wk2.2.1.2.2.2.2.1, rq_s, r3, cl_s, ck_p wk3.1, wk3.2.1.2.2.2.2.2.1, rq_s, r4, cl_s, ck_p wk4.1, wk4.2.1.2.2.2.2.2.2, rq_s, r5, cl_s, ck_p wk5.1, bd_e]
  have y6 : Ex (fun z => z = x + 23) g5 (sI g5 (x + 23) 11 0) := Ex.sI rfl
  have f6 : hI (sI g5 (x + 23) 11 0) (x + 23) = va_up (hI g5 (x + 23)) 11 0 := hI_sI_eq
  generalize sI g5 (x + 23) 11 0 = g6 at y6 f6 ⊢
  have Y : Ex (fun z => z = x + 23 ∨ z = x + 28 ∨ z = x + 29 ∨ z = x + 30) g0 g6 := (((((y1.mono (fun z hz => by omega)).trans (y2.mono (fun z hz => by omega))).trans (y3.mono (fun z hz => by omega))).trans (y4.mono (fun z hz => by omega))).trans (y5.mono (fun z hz => by omega))).trans (y6.mono (fun z hz => by omega))
  have sl : hI g6 (x + 23) = va_up (va_up (va_up (va_up (va_up (va_up (va_up (hI g0 (x + 23)) 10 (nI f)) 12 (nI (aWind A (tH M.1)))) 13 0) 14 0) 15 0) 16 0) 11 0 := by
    rw [f6, y5.2.2.2 _ (by omega), y4.2.2.2 _ (by omega), y3.2.2.2 _ (by omega), f2, f1]
  have kY : Kx x (fun z => ¬ (z = x + 23 ∨ z = x + 28 ∨ z = x + 29 ∨ z = x + 30)) g0 g6 := Y.kx (fun z hz => hz)
  have cM6 := cM2.kx kY (fun z z1 z2 => by omega)
  obtain ⟨h', c1, c2, c3, c4⟩ := c_go82 (N := N) (S := M.1) (R := M.2.2) (f := f) (q := q) (g := g) (mi := mi) hN (show x + 43 ≤ v by omega) hf hW wM.1 hJ wM.2.2 hpi hpf hq hg hgF hX N 0 g6 (by have := hW.1.2.2.1; omega) (by omega) ⟨mt0.sm Y.1, wk5.sm y6.1, pv2.ex Y (fun z z1 z2 z3 => by omega), cM6.1, cM6.2.2, by rw [Y.1.2.2.1]; exact r7, by rw [Y.1.2.2.1]; exact r8, by
    rw [sl, va_ne (by decide), va_ne (by decide), va_ne (by decide), va_ne (by decide), va_ne (by decide), va_ne (by decide), va_ne (by decide)]; exact e92, by
    rw [sl, va_ne (by decide), va_ne (by decide), va_ne (by decide), va_ne (by decide), va_ne (by decide), va_ne (by decide), va_eq], by rw [sl, va_eq]; rfl, by
    rw [sl, va_ne (by decide), va_ne (by decide), va_ne (by decide), va_ne (by decide), va_ne (by decide), va_eq], fun j j1 j2 => by
    rw [sl, va_ne (by omega)]
    rcases (show j = 13 ∨ j = 14 ∨ j = 15 ∨ j = 16 by omega) with e | e | e | e
    · rw [e, va_ne (by decide), va_ne (by decide), va_ne (by decide), va_eq]
    · rw [e, va_ne (by decide), va_ne (by decide), va_eq]
    · rw [e, va_ne (by decide), va_eq]
    · rw [e, va_eq], fun d hd => by
    rw [y6.2.2.2 _ (by omega), y6.2.2.2 _ (by omega), y5.2.2.2 _ (by omega), y5.2.2.2 _ (by omega), y4.2.2.2 (x + 23 + 5) (by omega)]
    exact ⟨v3 d hd, v4 d hd⟩, fun d hd => by rw [y6.2.2.2 _ (by omega)]; exact v5 d hd, fun j hj => absurd hj (Nat.not_lt_zero j)⟩
  exact ⟨h', c1, k2.trans ((kY.mono (fun z hz => by unfold wkR at hz; omega)).trans (c2.kx (fun z hz => hz))), c3, c4⟩
end GO
