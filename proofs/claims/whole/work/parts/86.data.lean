/-! A valley that is being read: both sides. -/
/-- counts (fuels, flues, houses, signs, watchers, winds), names, dark, sweet, burns, flues of houses, stocks told (0: not; else one more), ranges, sights, winds, laws' codes of both sides -/
abbrev DV : Type := (Nat → Nat) × (Nat → Nat → Nat) × (Nat → Nat) × (Nat → Nat) × (Nat → Nat) × (Nat → Nat) × (Nat → Nat) × (Nat → Nat) × (Nat → Nat) × (Nat → Nat) × (Nat → List Int32 × List Nat)
def vC (D : DV) : Nat → Nat := D.1
def vN (D : DV) : Nat → Nat → Nat := D.2.1
def vD (D : DV) : Nat → Nat := D.2.2.1
def vS (D : DV) : Nat → Nat := D.2.2.2.1
def vB (D : DV) : Nat → Nat := D.2.2.2.2.1
def vF (D : DV) : Nat → Nat := D.2.2.2.2.2.1
def vT (D : DV) : Nat → Nat := D.2.2.2.2.2.2.1
def vR (D : DV) : Nat → Nat := D.2.2.2.2.2.2.2.1
def vG (D : DV) : Nat → Nat := D.2.2.2.2.2.2.2.2.1
def vW (D : DV) : Nat → Nat := D.2.2.2.2.2.2.2.2.2.1
def vL (D : DV) : Nat → List Int32 × List Nat := D.2.2.2.2.2.2.2.2.2.2
/-- what it keeps to (its laws aside) -/
def DW (D : DV) : Prop := ((∀ k, k < 5 → vC D k ≤ mk5 k) ∧ vC D 5 ≤ 12) ∧ (∀ f, f < vC D 0 → vD D f ≤ 99 ∧ vS D f ≤ 99 ∧ 1 ≤ vB D f ∧ vB D f ≤ 9) ∧ (∀ i, i < vC D 2 → vF D i < vC D 1) ∧ (∀ k, k < 20 → vT D k ≤ 100) ∧ (∀ i f, i < 4 → f < 5 → (vC D 2 ≤ i ∨ vC D 0 ≤ f) → vT D (5 * i + f) = 0) ∧ (∀ k, k < vC D 3 → vR D (4 * k) ≤ vR D (4 * k + 1) ∧ vR D (4 * k + 1) ≤ 999 ∧ vR D (4 * k + 2) ≤ vR D (4 * k + 3) ∧ vR D (4 * k + 3) ≤ 999) ∧ (∀ k, k < vC D 4 → vG D k ≤ 2) ∧ ∀ k, k < vC D 5 → vW D k ≤ 9
/-- a law's codes, the class's; the reference's line -/
def LC (h : PH) (a : Nat) (C : List Int32) : Prop := C.length ≤ 1000 ∧ hI h a 3 = nI C.length ∧ ∀ k, k < C.length → hI h (a + 1) k = C.getD k 0
def LM (h : PH) (y l : Nat) (R : List Nat) (cd : Nat) : Prop := ∃ f, 1000 ≤ f ∧ f + R.length ≤ cd ∧ hI h (y + 12) (2 + l) = nI f ∧ hI h (y + 13) (2 + l) = nI (f + R.length) ∧ ∀ k, k < R.length → hI h (y + 14) (f + k) = nI (R.getD k 0)
def DC (h : PH) (w : Nat) (D : DV) : Prop := NmC h w (vC D) (vN D) ∧ hI h w 11 = nI (vC D 5) ∧ (∀ k, k < vC D 0 → hI h (w + 3) k = nI (vD D k) ∧ hI h (w + 4) k = nI (vS D k) ∧ hI h (w + 5) k = nI (vB D k)) ∧ (∀ k, k < vC D 2 → hI h (w + 6) k = nI (vF D k)) ∧ (∀ k, k < 20 → hI h (w + 7) k = nI (vT D k - 1)) ∧ hI h w 7 = nI (bts (fun k => decide (vT D k ≠ 0)) 20) ∧ (∀ k, k < 4 * vC D 3 → hI h (w + 8) k = nI (vR D k)) ∧ (∀ k, k < vC D 4 → hI h (w + 9) k = nI (vG D k)) ∧ (∀ k, k < vC D 5 → hI h (w + 10) k = nI (vW D k)) ∧ (LC h (w + 11) (vL D 0).1 ∧ LC h (w + 14) (vL D 1).1 ∧ hI h (w + 11) 0 = 1 ∧ hI h (w + 14) 0 = 0) ∧ ∀ k, k < 1000 → hI h (w + 17) k = -1
def DM (h : PH) (y : Nat) (D : DV) : Prop := NmM h y 1 (vC D) (vN D) ∧ hI h (y + 2) 11 = nI (vC D 5) ∧ (∀ k, k < vC D 0 → hI h (y + 4) (5 + k) = nI (vD D k) ∧ hI h (y + 5) (5 + k) = nI (vS D k) ∧ hI h (y + 6) (5 + k) = nI (vB D k)) ∧ (∀ k, k < vC D 2 → hI h (y + 7) (4 + k) = nI (vF D k)) ∧ (∀ i f, i < vC D 2 → f < 5 → hI h (y + 8) (20 + (5 * i + f)) = nI (vT D (5 * i + f)) + (-1)) ∧ (∀ k, k < 4 * vC D 3 → hI h (y + 9) (24 + k) = nI (vR D k)) ∧ (∀ k, k < vC D 4 → hI h (y + 10) (4 + k) = nI (vG D k)) ∧ (∀ k, k < vC D 5 → hI h (y + 11) (12 + k) = nI (vW D k)) ∧ ∃ cd, cd ≤ 2000 ∧ hI h y 23 = nI cd ∧ cd = 1000 + (vL D 0).2.length + (vL D 1).2.length ∧ LM h y 0 (vL D 0).2 cd ∧ LM h y 1 (vL D 1).2 cd
/-- only cells of the valley at w change -/
def Fg (w : Nat) (h h' : PH) : Prop := ∀ z, z = w + 11 ∨ z = w + 14 → hI h' z 0 = hI h z 0
def Vw (w : Nat) (h h' : PH) : Prop := Sm h h' ∧ hz h' = hz h ∧ (∀ z, (z < w ∨ w + 18 ≤ z) → hI h' z = hI h z ∧ hJ h' z = hJ h z) ∧ Fg w h h'
/-- the tape and the valley at w change -/
def Kw (x w : Nat) (h h' : PH) : Prop := Shp x h h' ∧ (∀ z, z ≠ x + 1 ∧ (z < w ∨ w + 18 ≤ z) → hI h' z = hI h z ∧ hJ h' z = hJ h z) ∧ (x + 43 ≤ w → Fg w h h')
/-- first halves of the reference's rows -/
def hfn (j : Nat) : Nat := ([0, 0, 6, 22, 5, 5, 5, 4, 20, 24, 4, 12, 2, 2, 1000] : List Nat).getD j 0
/-- what the reference's reading keeps -/
def Pf (y : Nat) (h h' : PH) : Prop := Sm h h' ∧ hz h' = hz h ∧ (∀ z, (z < y ∨ z = y + 1 ∨ y + 17 ≤ z) → hI h' z = hI h z ∧ hJ h' z = hJ h z) ∧ (∀ j k, 2 ≤ j → j ≤ 14 → k < hfn j → hI h' (y + j) k = hI h (y + j) k ∧ hJ h' (y + j) k = hJ h (y + j) k) ∧ ∀ k, k = 1 ∨ k = 54 → hI h' y k = hI h y k
section DAT
variable {N x y w a : Nat} {X : TX} {s : ZS} {D : DV} {h h' : PH}
theorem Fg.trans {h1 h2 : PH} (p : Fg w h h1) (q : Fg w h1 h2) : Fg w h h2 := fun z hz => (q z hz).trans (p z hz)
theorem Vw.rf : Vw w h h := ⟨Sm.rfl', rfl, fun _ _ => ⟨rfl, rfl⟩, fun _ _ => rfl⟩
theorem Vw.trans {h1 h2 : PH} (p : Vw w h h1) (q : Vw w h1 h2) : Vw w h h2 := ⟨p.1.trans q.1, q.2.1.trans p.2.1, fun z hz => ⟨(q.2.2.1 z hz).1.trans (p.2.2.1 z hz).1, (q.2.2.1 z hz).2.trans (p.2.2.1 z hz).2⟩, p.2.2.2.trans q.2.2.2⟩
theorem Vw.I {b k : Nat} {v : Int32} (hb : (w ≤ b ∧ b < w + 18) ∧ ((b ≠ w + 11 ∧ b ≠ w + 14) ∨ k ≠ 0)) : Vw w h (sI h b k v) := ⟨Sm.sI, rfl, fun z hz => ⟨hI_sI_ne (by omega), rfl⟩, fun z hz => by
  by_cases e : z = b
  · rw [e, hI_sI_eq, va_ne (by omega)]
  · rw [hI_sI_ne e]⟩
theorem Vw.J {b k : Nat} {v : Int64} (hb : w ≤ b ∧ b < w + 18) : Vw w h (sJ h b k v) := ⟨Sm.sJ, rfl, fun z hz => ⟨rfl, by rw [hJ_sJ]; exact up2_a _ _ _ (by omega)⟩, fun _ _ => rfl⟩
theorem Vw.kw (g : Vw w h h') : Kw x w h h' := ⟨g.1.shp g.2.1, fun z hz => g.2.2.1 z hz.2, fun _ => g.2.2.2⟩
theorem Kw.trans {h1 h2 : PH} (p : Kw x w h h1) (q : Kw x w h1 h2) : Kw x w h h2 := ⟨p.1.trans q.1, fun z hz => ⟨(q.2.1 z hz).1.trans (p.2.1 z hz).1, (q.2.1 z hz).2.trans (p.2.1 z hz).2⟩, fun l => (p.2.2 l).trans (q.2.2 l)⟩
theorem Kw.kx (p : Kw x w h h') : Kx x (fun z => z ≠ x + 1 ∧ (z < w ∨ w + 18 ≤ z)) h h' := ⟨p.1, p.2.1⟩
theorem Kw.rf : Kw x w h h := ⟨Shp.rf, fun _ _ => ⟨rfl, rfl⟩, fun _ _ _ => rfl⟩
theorem Kx.kw (g : Kx x (fun z => z ≠ x + 1) h h') : Kw x w h h' := ⟨g.1, fun z hz => g.2 z hz.1, fun l z hz => by rw [(g.2 z (by omega)).1]⟩
theorem TK.vw {p : Nat} (hw : x + 43 ≤ w) (g : Vw w h h') (q : TK X x h p) : TK X x h' p := by
  obtain ⟨q1, q2, q3, q4, q5⟩ := q
  have e := g.2.2.1 (x + 1) (by omega)
  refine ⟨by rw [e.1]; exact q1, by rw [e.1]; exact q2, by rw [e.1]; exact q3, fun z => ?_, fun z => by rw [e.1]; exact q5 z⟩
  rw [e.2, g.1.2.2.1]
  refine ⟨(q4 z).1, ?_⟩
  unfold wrf
  rw [g.1.2.2.2]
  exact (q4 z).2
theorem CZ.vw (hw : x + 43 ≤ w) (g : Vw w h h') (q : CZ X x h s) : CZ X x h' s := by
  obtain ⟨⟨p1, p2, p3, p4, p5, p6⟩, q2, q3, q4, q5⟩ := q
  have e := g.2.2.1 (x + 1) (by omega)
  have e2 := g.2.2.1 (x + 2) (by omega)
  refine ⟨⟨p1.sm g.1, by rw [g.2.1]; exact p2, by rw [g.1.2.2.2]; exact p3, p4, by rw [e.1]; exact p5, fun k hk => by rw [e2.1]; exact p6 k hk⟩, q2, q3, by rw [e.1]; exact q4, fun z => (q5 z).vw hw g⟩
theorem LC.kx {P : Nat → Prop} {b : Nat} {C : List Int32} (g : Kx x P h h') (h1 : P b) (h2 : P (b + 1)) (q : LC h b C) : LC h' b C := by
  unfold LC at q ⊢
  rw [(g.2 b h1).1, (g.2 (b + 1) h2).1]
  exact q
theorem DC.kx {P : Nat → Prop} (g : Kx x P h h') (hP : ∀ z, w ≤ z → z < w + 18 → P z) (l : w + 18 ≤ hz h) (n : x + 43 ≤ w) (q : DC h w D) : DC h' w D := by
  obtain ⟨q0, q1, q2, q3, q4, q5, q6, q7, q8, ⟨q9, q10, q11, q12⟩, q13⟩ := q
  have e : ∀ k, k < 18 → hI h' (w + k) = hI h (w + k) := fun k hk => (g.2 _ (hP _ (by omega) (by omega))).1
  have e0 := e 0 (by decide)
  rw [Nat.add_zero] at e0
  refine ⟨q0.kx g hP l n, by rw [e0]; exact q1, ?_, ?_, ?_, by rw [e0]; exact q5, ?_, ?_, ?_, ⟨q9.kx g (hP _ (by omega) (by omega)) (hP _ (by omega) (by omega)), q10.kx g (hP _ (by omega) (by omega)) (hP _ (by omega) (by omega)), ?_, ?_⟩, ?_⟩
  · rw [e 3 (by decide), e 4 (by decide), e 5 (by decide)]; exact q2
  · rw [e 6 (by decide)]; exact q3
  · rw [e 7 (by decide)]; exact q4
  · rw [e 8 (by decide)]; exact q6
  · rw [e 9 (by decide)]; exact q7
  · rw [e 10 (by decide)]; exact q8
  · rw [e 11 (by decide)]; exact q11
  · rw [e 14 (by decide)]; exact q12
  · rw [e 17 (by decide)]; exact q13
/-- a name is entered -/
def cUp (D : DV) (k : Nat) : Nat → Nat := va_up (vC D) k (vC D k + 1)
def nUp (D : DV) (k c : Nat) : Nat → Nat → Nat := va_up (vN D) k (va_up (vN D k) (vC D k) c)
theorem cUp_n {k j : Nat} (hj : j ≠ k) : cUp D k j = vC D j := va_ne hj
theorem cUp_e {k : Nat} : cUp D k k = vC D k + 1 := va_eq
theorem nUp_n {k c j : Nat} (hj : j ≠ k) : nUp D k c j = vN D j := va_ne hj
theorem nUp_e {k c : Nat} : nUp D k c k = va_up (vN D k) (vC D k) c := va_eq
theorem z_enter {k c : Nat} (hk : k < 5) (hc : Wrd c) (hm : vC D k < mk5 k) (q : NmC h w (vC D) (vN D)) : f_X6_enter N w (nI k) (lN c) h = some ((), sI (sJ h (w + 2) (6 * k + vC D k) (lN c)) (w + 1) k (nI (vC D k + 1))) ∧ NmC (sI (sJ h (w + 2) (6 * k + vC D k) (lN c)) (w + 1) k (nI (vC D k + 1))) w (cUp D k) (nUp D k c) := by
  obtain ⟨hV, qk⟩ := q
  have m6 := mk5_le k
  have e6 : nI k * (6 : Int32) + nI (vC D k) = nI (6 * k + vC D k) := by rw [show (6 : Int32) = nI 6 from rfl, pk_mul, nI_add, Nat.mul_comm]
  have hV2 : VL (sJ h (w + 2) (6 * k + vC D k) (lN c)) w := hV.sm Sm.sJ
  refine ⟨?_, hV2.sm Sm.sI, fun j hj => ?_⟩
  · unfold f_X6_enter
    rw [ck_p hV.1, vR_many hV, rq_s, ck_p (vK_many hV), vN_many hV, ck_p (nI_ix hk (by decide)), ix_nI (by omega), (qk k hk).2.1, if_neg (show ¬ (6 : Int32) ≤ nI (vC D k) by rw [show (6 : Int32) = nI 6 from rfl, nI_leI (by decide) (by omega)]; omega), vR_names hV, rq_s, rq_s, ck_p (vK_many hV), vN_many hV, ck_p (nI_ix hk (by decide)), ck_p (vK_names hV), vN_names hV, (qk k hk).2.1, e6, ck_p (nI_ix (by omega) (by decide)), ix_nI (by omega), bd_e, ck_p hV2.1, vR_many hV2, rq_s, ck_p (vK_many hV2), vN_many hV2, ck_p (nI_ix hk (by decide)), hI_sJ, (qk k hk).2.1, nI_1, bd_e]
  · rw [hI_sI_eq, hJ_sI, hJ_sJ, up2_row]
    by_cases e : j = k
    · subst e
      rw [va_eq, cUp_e, nUp_e]
      refine ⟨by omega, rfl, fun i hi => ?_⟩
      by_cases ei : i = vC D j
      · rw [ei, va_eq, va_eq]
        exact ⟨hc, rfl⟩
      · rw [va_ne ei, va_ne (by omega)]
        exact (qk j hk).2.2 i (by omega)
    · rw [va_ne e, cUp_n e, nUp_n e]
      obtain ⟨r1, r2, r3⟩ := qk j hj
      refine ⟨r1, r2, fun i hi => ?_⟩
      have mj := mk5_le j
      rw [va_ne (by omega)]
      exact r3 i hi
/-- the same, on the reference's side -/
theorem m_keepsName {k c : Nat} (hk : k < 5) (hc : Wrd c) (hm : vC D k < mk5 k) (e38 : hJ h y 38 = lN (u27 c)) (q : NmM h y 1 (vC D) (vN D)) : f_X11_keepsName N y (nI k) h = some ((), sI (sJ h (y + 3) (22 + (fN k + vC D k)) (lN (u27 c))) (y + 2) (6 + k) (nI (vC D k + 1))) ∧ NmM (sI (sJ h (y + 3) (22 + (fN k + vC D k)) (lN (u27 c))) (y + 2) (6 + k) (nI (vC D k + 1))) y 1 (cUp D k) (nUp D k c) := by
  obtain ⟨m, qk⟩ := q
  have m6 := mk5_le k
  have fm := fN_mk k
  have k2 := (qk k hk).2.1
  rw [Nat.mul_one] at k2
  have e6 : (6 : Int32) + nI k = nI (6 + k) := nI_add 6 k
  have e22 : ((22 : Int32) + nI (fN k)) + nI (vC D k) = nI (22 + (fN k + vC D k)) := by rw [show (22 : Int32) = nI 22 from rfl, nI_add, nI_add, Nat.add_assoc]
  have m2 : MD (sJ h (y + 3) (22 + (fN k + vC D k)) (lN (u27 c))) y := m.sm Sm.sJ
  refine ⟨?_, m2.sm Sm.sI, fun j hj => ?_⟩
  · unfold f_X11_keepsName
    rw [ck_p m.1, mR_names m, rq_s, m_fN hk, cl_s, ck_p m.1, mR_valley m, rq_s, ck_p (mK_valley m), mN_valley m, e6, ck_p (nI_ix (by omega) (by decide)), ix_nI (by omega), k2, e22, ck_p (mK_names m), mN_names m, ck_p (nI_ix (by omega) (by decide)), ix_nI (by omega), e38, bd_e, ck_p m2.1, mR_valley m2, rq_s, bd_e, ck_p (mK_valley m2), mN_valley m2, ck_p (nI_ix (by omega) (by decide)), ix_nI (by omega), hI_sJ, k2, nI_1, bd_e]
  · rw [hI_sI_eq, hJ_sI, hJ_sJ, up2_row, Nat.mul_one, Nat.mul_one]
    by_cases e : j = k
    · subst e
      rw [va_eq, cUp_e, nUp_e]
      refine ⟨by omega, rfl, fun i hi => ?_⟩
      by_cases ei : i = vC D j
      · rw [ei, va_eq, va_eq]
        exact ⟨hc, rfl⟩
      · rw [va_ne ei, va_ne (by omega)]
        exact (qk j hk).2.2 i (by omega)
    · rw [va_ne (by omega), cUp_n e, nUp_n e]
      obtain ⟨r1, r2, r3⟩ := qk j hj
      rw [Nat.mul_one] at r2
      refine ⟨r1, r2, fun i hi => ?_⟩
      obtain ⟨w1, w2⟩ := r3 i hi
      rw [Nat.mul_one] at w2
      refine ⟨w1, ?_⟩
      have fj := fN_mk j
      rw [va_ne (by
        unfold fN at fm fj ⊢
        unfold mk5 at fm fj r1 hm
        rcases (show k = 0 ∨ k = 1 ∨ k = 2 ∨ k = 3 ∨ k = 4 by omega) with rfl | rfl | rfl | rfl | rfl <;> rcases (show j = 0 ∨ j = 1 ∨ j = 2 ∨ j = 3 ∨ j = 4 by omega) with rfl | rfl | rfl | rfl | rfl <;> simp at r1 hm ⊢ <;> omega)]
      exact w2
/-! frames of the reference's reading -/
theorem Pf.rf : Pf y h h := ⟨Sm.rfl', rfl, fun _ _ => ⟨rfl, rfl⟩, fun _ _ _ _ _ => ⟨rfl, rfl⟩, fun _ _ => rfl⟩
theorem Pf.trans {h1 h2 : PH} (p : Pf y h h1) (q : Pf y h1 h2) : Pf y h h2 := ⟨p.1.trans q.1, q.2.1.trans p.2.1, fun z hz => ⟨(q.2.2.1 z hz).1.trans (p.2.2.1 z hz).1, (q.2.2.1 z hz).2.trans (p.2.2.1 z hz).2⟩, fun j k a b c => ⟨(q.2.2.2.1 j k a b c).1.trans (p.2.2.2.1 j k a b c).1, (q.2.2.2.1 j k a b c).2.trans (p.2.2.2.1 j k a b c).2⟩, fun k hk => (q.2.2.2.2 k hk).trans (p.2.2.2.2 k hk)⟩
theorem Rj.pf (g : Rj y h h') : Pf y h h' := ⟨g.1.1, g.1.2.1, fun z hz => g.1.2.2 z (by omega), fun j k a b c => ⟨by rw [(g.1.2.2 (y + j) (by omega)).1], by rw [(g.1.2.2 (y + j) (by omega)).2]⟩, fun k hk => g.2 k (by omega)⟩
theorem Rk.rj (g : Rk y h h') : Rj y h h' := ⟨g.1, g.2.1⟩
theorem Pf.I {j k : Nat} {v : Int32} (h1 : 2 ≤ j) (h2 : j ≤ 16) (hk : hfn j ≤ k) : Pf y h (sI h (y + j) k v) := by
  refine ⟨Sm.sI, rfl, fun z hz => ⟨hI_sI_ne (by omega), rfl⟩, fun i m a b c => ⟨?_, rfl⟩, fun m hm => by rw [hI_sI_ne (by omega)]⟩
  by_cases e : i = j
  · subst e
    rw [hI_sI_eq, va_ne (by omega)]
  · rw [hI_sI_ne (by omega)]
theorem Pf.J {k : Nat} {v : Int64} (hk : 22 ≤ k) : Pf y h (sJ h (y + 3) k v) := by
  refine ⟨Sm.sJ, rfl, fun z hz => ⟨rfl, by rw [hJ_sJ]; exact up2_a _ _ _ (by omega)⟩, fun i m a b c => ⟨rfl, ?_⟩, fun m hm => rfl⟩
  rw [hJ_sJ]
  by_cases e : i = 3
  · subst e
    have c : m < 22 := c
    exact up2_k _ _ _ (by omega)
  · rw [up2_a _ _ _ (by omega)]
theorem Pf.Y {k : Nat} {v : Int32} (hk : k ≠ 1 ∧ k ≠ 54) : Pf y h (sI h y k v) := ⟨Sm.sI, rfl, fun z hz => ⟨hI_sI_ne (by omega), rfl⟩, fun i m a b c => ⟨by rw [hI_sI_ne (by omega)], rfl⟩, fun m hm => by rw [hI_sI_eq, va_ne (by omega)]⟩
theorem LM.e {l cd : Nat} {R : List Nat} (e1 : hI h' (y + 12) (2 + l) = hI h (y + 12) (2 + l)) (e2 : hI h' (y + 13) (2 + l) = hI h (y + 13) (2 + l)) (e3 : ∀ k, k < cd → hI h' (y + 14) k = hI h (y + 14) k) (q : LM h y l R cd) : LM h' y l R cd := by
  obtain ⟨f, q1, q2, q3, q4, q5⟩ := q
  exact ⟨f, q1, q2, e1.trans q3, e2.trans q4, fun k hk => (e3 _ (by omega)).trans (q5 k hk)⟩
theorem DM.rj (g : Rj y h h') (q : DM h y D) : DM h' y D := by
  obtain ⟨q0, q1, q2, q3, q4, q5, q6, q7, cd, q8, q9, q10, q11, q12⟩ := q
  have e : ∀ k, 2 ≤ k → k ≤ 16 → hI h' (y + k) = hI h (y + k) := fun k a b => (g.1.2.2 _ (by omega)).1
  refine ⟨q0.rx g.1, ?_, ?_, ?_, ?_, ?_, ?_, ?_, cd, q8, (g.2 23 (by omega)).trans q9, q10, q11.e ?_ ?_ ?_, q12.e ?_ ?_ ?_⟩
  · rw [e 2 (by decide) (by decide)]; exact q1
  · rw [e 4 (by decide) (by decide), e 5 (by decide) (by decide), e 6 (by decide) (by decide)]; exact q2
  · rw [e 7 (by decide) (by decide)]; exact q3
  · rw [e 8 (by decide) (by decide)]; exact q4
  · rw [e 9 (by decide) (by decide)]; exact q5
  · rw [e 10 (by decide) (by decide)]; exact q6
  · rw [e 11 (by decide) (by decide)]; exact q7
  · rw [e 12 (by decide) (by decide)]
  · rw [e 13 (by decide) (by decide)]
  · rw [e 14 (by decide) (by decide)]; exact fun _ _ => rfl
  · rw [e 12 (by decide) (by decide)]
  · rw [e 13 (by decide) (by decide)]
  · rw [e 14 (by decide) (by decide)]; exact fun _ _ => rfl
end DAT
