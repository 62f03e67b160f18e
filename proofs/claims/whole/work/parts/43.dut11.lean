/-! The duty of years: the reference. -/
section YB
variable {N x y : Nat} {A : AV}
/-- what the reference's years go by -/
def Yst (N x y : Nat) (A : AV) (F : Nat → Int32) (h : PH) (S : AS) (g : Int64) : Prop := MA N h y A ∧ RS (hI h (y + 37)) 0 S ∧ hJ h y 65 = g ∧ (∀ j, j < 32 → hI h (y + 38) j = F j) ∧ y + 48 ≤ hz h ∧ x + 43 ≤ y
/-- ... and what they leave -/
def Yend (x y : Nat) (F : Nat → Int32) (h h' : PH) : Prop := Kx x (fun z => ¬ inP y z) h h' ∧ (∀ j, j < 32 → hI h' (y + 37) j = F j) ∧ ∀ j, j ≠ 55 → j ≠ 56 → hI h' y j = hI h y j
def Ymid (x y : Nat) (h h' : PH) : Prop := Kx x (fun z => ¬ inP y z) h h' ∧ ∀ j, j ≠ 55 → j ≠ 56 → hI h' y j = hI h y j
theorem Yend.pre {F : Nat → Int32} {h g h' : PH} (p : Ymid x y h g) (q : Yend x y F g h') : Yend x y F h h' := ⟨p.1.trans q.1, q.2.1, fun j j1 j2 => (q.2.2 j j1 j2).trans (p.2 j j1 j2)⟩
theorem Yst.ex {F : Nat → Int32} {P : Nat → Prop} {h g : PH} {S S' : AS} {u : Int64} (e : Ex P h g) (hP : ∀ z, P z → inP y z) (rs : RS (hI g (y + 37)) 0 S') (p : Yst N x y A F h S u) : Yst N x y A F g S' u := ⟨p.1.ex e (fun z z1 z2 z3 => by have := hP z z3; unfold inP inM at this; omega), rs, by rw [e.2.2.1]; exact p.2.2.1, fun j hj => by rw [e.2.2.2 (y + 38) (fun z => by have := hP _ z; unfold inP inM at this; omega)]; exact p.2.2.2.1 j hj, by rw [e.2.1]; exact p.2.2.2.2.1, p.2.2.2.2.2⟩
theorem m_draws {F : Nat → Int32} {h : PH} {S : AS} {g : Int64} (p : Yst N x y A F h S g) {f : Nat} (hf : f ≤ 5) : f_X11_draws N y (nI f + (1 : Int32)) h = some (df f (nx g), sJ h y 65 (nx g)) ∧ Yst N x y A F (sJ h y 65 (nx g)) S (nx g) ∧ Ymid x y h (sJ h y 65 (nx g)) := by
  have eJ : hJ (sJ h y 65 (nx g)) y 65 = nx g := by rw [hJ_sJ]; exact up2_self _ _ _ _
  have kx : Kx x (fun z => ¬ inP y z) h (sJ h y 65 (nx g)) := ⟨Sm.sJ.shp rfl, fun z hz => ⟨rfl, by rw [hJ_sJ]; exact up2_a _ _ _ (fun e => hz (Or.inr (Or.inr e)))⟩⟩
  refine ⟨?_, ⟨p.1.kx kx (fun z z1 z2 => by unfold inP inM; omega) p.2.2.2.2.1 p.2.2.2.2.2, p.2.1, eJ, p.2.2.2.1, p.2.2.2.2.1, p.2.2.2.2.2⟩, kx, fun _ _ _ => rfl⟩
  unfold f_X11_draws
  have k2 : hK (sJ h y 65 (nx g)) y = 10 := p.1.1.1
  rw [ck_p p.1.1.1, p.2.2.1, bd_e, show ((g * (1103515245 : Int64)) + (12345 : Int64)) - ((g * (1103515245 : Int64)) + (12345 : Int64)) / (2147483648 : Int64) * (2147483648 : Int64) = nx g from rfl, ck_p k2, ck_p (fp1 hf), eJ]
  rfl
theorem m_y142 (hN : 2000 ≤ N) {F : Nat → Int32} {J t T wh : Nat} {S S0 : AS} {g0 g : Int64} {K : Nat → Int32 → Int32 → Int32 → Int32 → Int32 → PH → Option (Int32 × PH)} {a b : Nat} (ws : WS A J S) (hJ : J < 2 ^ 30) {ans : Int32} (hK : ∀ h, Yst N x y A F h (sPass A S) g → ∃ h', K y (nI T) (nI wh) (nI (a + sgs A S (aC A 1))) (nI (b + came A S (aC A 1))) (nI (t + 1)) h = some (ans, h') ∧ Yend x y F h h') {h : PH} (p : Yst N x y A F h S g) : ∃ h', f_X11_years_142 N K y (nI T) (nI wh) (nI a) (nI b) (nI t) h = some (ans, h') ∧ Yend x y F h h' := by
  obtain ⟨h1, r1, r2, r3, r4, r5, r6⟩ := m_passes hN p.1 p.2.1 ws hJ
  have p1 := p.ex r2 (fun z hz => hz) r3
  obtain ⟨h', s1, s2⟩ := hK h1 p1
  refine ⟨h', ?_, Yend.pre ⟨r2.kx (fun z hz => hz), r6⟩ s2⟩
  unfold f_X11_years_142
  rw [ck_p p.1.1.1, r1, cl_s, ck_p p1.1.1.1, r4, nI_add, bd_e, r5, nI_add, bd_e, bd_e, nI_1]
  exact s1
theorem m_y74 (hN : 2000 ≤ N) {F : Nat → Int32} {J t T wh : Nat} {S : AS} {g : Int64} {K : Nat → Int32 → Int32 → Int32 → Int32 → Int32 → PH → Option (Int32 × PH)} {a b : Nat} (hW : WV A) (hF : 0 < aC A 0) (ws : WS A J S) (hJ : J < 2 ^ 30) {ans : Int32} (hK : ∀ h, Yst N x y A F h (sPass A (yH A S g (aC A 2)).1) (yH A S g (aC A 2)).2 → ∃ h', K y (nI T) (nI wh) (nI (a + sgs A (yH A S g (aC A 2)).1 (aC A 1))) (nI (b + came A (yH A S g (aC A 2)).1 (aC A 1))) (nI (t + 1)) h = some (ans, h') ∧ Yend x y F h h') : ∀ (n i : Nat) (h : PH), aC A 2 < n + i → i ≤ aC A 2 → Yst N x y A F h (yH A S g i).1 (yH A S g i).2 → ∃ h', f_X11_years_74 N K n y (nI T) (nI wh) (nI a) (nI b) (nI t) (nI i) h = some (ans, h') ∧ Yend x y F h h'
  | 0, i, h, h1, h2, _ => by omega
  | n + 1, i, h, h1, h2, p => by
    have h5 := hW.1.1
    have h4 := hW.1.2.2.1
    have m := p.1.1
    have wsi := WSyH hW ws (g := g) i h2
    show ∃ h', f_X11_years_74_b N K (f_X11_years_74 N K n) y _ _ _ _ _ _ h = _ ∧ _
    unfold f_X11_years_74_b
    rw [ck_p m.1, mR_valley m, rq_s, ck_p (mK_valley m), mN_valley m, ck_p (by decide), p.1.2.1.1 2 (by decide), ite_i (nI_leI (by omega) (by omega))]
    by_cases c : aC A 2 ≤ i
    · have e : i = aC A 2 := by omega
      subst e
      rw [if_pos c]
      exact m_y142 hN (S0 := S) (g0 := g) wsi hJ hK p
    · obtain ⟨d1, d2, d3⟩ := m_draws p (f := aC A 0) h5
      have md := d2.1.1
      rw [if_neg c, rq_s, ck_p (mK_valley m), mN_valley m, ck_p (by decide), p.1.2.1.1 0 (by decide), if_neg (nI_nle hF (by omega)), rq_s, ck_p (mK_valley m), mN_valley m, ck_p (by decide), p.1.2.1.1 0 (by decide), d1, cl_s, ck_p md.1, m_isFuel md d2.1.2.1, cl_s]
      have go : ∀ g1, Ymid x y (sJ h y 65 (nx (yH A S g i).2)) g1 → Yst N x y A F g1 (yH A S g (i + 1)).1 (yH A S g (i + 1)).2 → ∃ h', f_X11_years_136 N K (f_X11_years_74 N K n) y (nI T) (nI wh) (nI a) (nI b) (nI t) (nI i) g1 = some (ans, h') ∧ Yend x y F h h' := fun g1 e1 q1 => by
        obtain ⟨h', s1, s2⟩ := m_y74 hN hW hF ws hJ hK n (i + 1) g1 (by omega) (by omega) q1
        refine ⟨h', ?_, Yend.pre d3 (Yend.pre e1 s2)⟩
        unfold f_X11_years_136
        rw [bd_e, nI_1]
        exact s1
      have ey : (yH A S g (i + 1)).1 = yL A (yH A S g i).1 i (df (aC A 0) (nx (yH A S g i).2)) := rfl
      have ey2 : (yH A S g (i + 1)).2 = nx (yH A S g i).2 := rfl
      rw [ey, ey2] at go
      generalize sJ h y 65 (nx (yH A S g i).2) = hs at d2 d3 md go
      generalize df (aC A 0) (nx (yH A S g i).2) = f at go
      unfold yL at go
      by_cases c2 : ¬ f < 0 ∧ ¬ nI (aC A 0) ≤ f
      · obtain ⟨j, hj, rfl⟩ := told (by omega) c2
        rw [ix_nI (by omega)] at go
        rw [yesT c2, if_neg one0, ck_p md.1, m_canBurn md d2.2.1 wsi (by omega) (by omega), cl_s]
        by_cases c3 : tL (yH A S g i).1 i = 0 ∧ 0 < tT (yH A S g i).1 (5 * i + j)
        · rw [if_pos ⟨c2, c3⟩] at go
          obtain ⟨g1, r1, r2, r3⟩ := m_lights (N := N) d2.1 d2.2.1 wsi (i := i) (f := j) (by omega) hj c3.2
          rw [yesT c3, if_neg one0, ck_p md.1, r1, cl_s]
          exact go g1 ⟨r2.kx (fun z hz zz => hz (Or.inr (Or.inl zz))), fun _ _ _ => by rw [r2.2.2.2 y (by omega)]⟩ (d2.ex r2 (fun z hz => Or.inr (Or.inl hz)) r3)
        · rw [if_neg (fun z => c3 z.2)] at go
          rw [yesF c3, if_pos rfl]
          exact go hs ⟨Kx.rf, fun _ _ _ => rfl⟩ d2
      · rw [if_neg (fun z => c2 z.1)] at go
        rw [yesF c2, if_pos rfl]
        exact go hs ⟨Kx.rf, fun _ _ _ => rfl⟩ d2
theorem m_y65 (hN : 2000 ≤ N) {F : Nat → Int32} {J T wh : Nat} {S : AS} {g : Int64} (hW : WV A) (hT : T ≤ 99) (hJ : J < 512) (hwh : wh < 3) (ws : WS A J S) : ∀ (n t : Nat) (h : PH), T < n + t → t ≤ T → Yst N x y A F h (yT A S g t).1 (yT A S g t).2 → ∃ h', f_X11_years_65 N n y (nI T) (nI wh) (nI (yR A S g t)) (nI (yC A S g t)) (nI t) h = some (yA A S g T wh, h') ∧ Yend x y F h h'
  | 0, t, h, h1, h2, _ => by omega
  | n + 1, t, h, h1, h2, p => by
    have h5 := hW.1.1
    have h4 := hW.1.2.2.1
    have m := p.1.1
    have wst := WSyT hW ws (g := g) t
    show ∃ h', f_X11_years_65_b N (f_X11_years_65 N n) y _ _ _ _ _ h = _ ∧ _
    unfold f_X11_years_65_b
    rw [ite_i (nI_leI (by omega) (by omega))]
    by_cases c : T ≤ t
    · have e : t = T := by omega
      subst e
      obtain ⟨g1, c1, c2, c3, c4⟩ := m_copies (N := N) (by omega) (h := h) (a := y + 38) (c := y + 37) (b := 0) (e := 0) (na := 32) (nc := 32) (by omega) (by omega) (by omega) (by decide) (by decide) ⟨mK_aside m, mN_aside m⟩ ⟨mK_s m, mN_s m⟩
      have c1 : f_X11_copies N (y + 38) 0 (y + 37) 0 h = _ := c1
      refine ⟨g1, ?_, c2.kx (fun z hz zz => hz (Or.inr (Or.inl zz))), fun j hj => ?_, fun j _ _ => by rw [c2.2.2.2 y (by omega)]⟩
      · unfold yA
        rw [if_pos c, ck_p m.1, m_stocks (by omega) m p.2.1, cl_s, ck_p m.1, mR_aside m, rq_s, mR_s m, rq_s, c1, cl_s, ite_i (show nI wh = 0 ↔ wh = 0 from nI_eq (b := 0) (by omega) (by decide))]
        by_cases w0 : wh = 0
        · rw [if_pos w0, if_pos w0]
        · rw [if_neg w0, if_neg w0, ite_i (show nI wh = 1 ↔ wh = 1 from nI_eq (b := 1) (by omega) (by decide))]
          by_cases w1 : wh = 1
          · rw [if_pos w1, if_pos w1]
          · rw [if_neg w1, if_neg w1]
      · have := c3 j hj
        rw [Nat.zero_add] at this
        rw [this]
        exact p.2.2.2.1 j hj
    · rw [if_neg c]
      have next : ∀ h, Yst N x y A F h (sPass A (yM A (yT A S g t)).1) (yM A (yT A S g t)).2 → ∃ h', f_X11_years_65 N n y (nI T) (nI wh) (nI (yR A S g t + sgs A (yM A (yT A S g t)).1 (aC A 1))) (nI (yC A S g t + came A (yM A (yT A S g t)).1 (aC A 1))) (nI (t + 1)) h = some (yA A S g T wh, h') ∧ Yend x y F h h' := fun h q => m_y65 hN hW hT hJ hwh ws n (t + 1) h (by omega) (by omega) q
      by_cases hF : 0 < aC A 0
      · have ym : yM A (yT A S g t) = yH A (yT A S g t).1 (yT A S g t).2 (aC A 2) := if_pos hF
        rw [ym] at next
        exact m_y74 hN hW hF wst (by omega) next N 0 h (by omega) (by omega) p
      · have ym : yM A (yT A S g t) = yT A S g t := if_neg hF
        rw [ym] at next
        obtain ⟨N', rfl⟩ : ∃ N', N = N' + 1 := ⟨N - 1, by omega⟩
        obtain ⟨h', s1, s2⟩ := m_y142 (t := t) (T := T) (wh := wh) hN (S0 := S) (g0 := g) wst (by omega) next p
        refine ⟨h', ?_, s2⟩
        show f_X11_years_74_b (N' + 1) (f_X11_years_65 (N' + 1) n) (f_X11_years_74 (N' + 1) (f_X11_years_65 (N' + 1) n) N') y _ _ _ _ _ _ h = _
        unfold f_X11_years_74_b
        rw [ck_p m.1, mR_valley m, rq_s, ck_p (mK_valley m), mN_valley m, ck_p (by decide), p.1.2.1.1 2 (by decide)]
        by_cases c2 : nI (aC A 2) ≤ (0 : Int32)
        · rw [if_pos c2]; exact s1
        · rw [if_neg c2, rq_s, ck_p (mK_valley m), mN_valley m, ck_p (by decide), p.1.2.1.1 0 (by decide), if_pos (nI_z hF)]; exact s1
end YB
section DY11
variable {N x y o J : Nat}
theorem d_years (hN2 : 2001 ≤ N) (hJ5 : J < 512) : D_years (INV N x y o J) (INV N x y o (J + 1)) N x y := by
  intro a b c h ⟨v, w, A, M, pn, pc, P, lb, K, tn, tb, q⟩
  obtain ⟨p0, ob, pv, pm, pnm, ⟨cM, rS, rD, rR, wM⟩, pP, pK, pT⟩ := id q
  have y0 := p0.1
  have z0 := p0.2.2.1
  have z1 := p0.2.1
  have vw := ob.1
  have hW := pv.2.2.1
  have le_of : ∀ {u k : Int32}, ¬ k < u → u ≤ k := fun z => fa_of_nlt z
  have no : f_X10_years N x a b c h = some (-1, h) → f_X11_years N y a b c h = some (-1, sI h y 0 0) → wp (f_X10_years N x a b c h) (fun r h1 => hK h1 y = 10 ∧ wp (f_X11_years N y a b c h1) (fun r2 h2 => r = r2 ∧ INV N x y o (J + 1) h2)) := fun e1 e2 => wp2 e1 pm.1.1 e2 (q.thr 0).inv
  by_cases c1 : ¬ a < 0 ∧ ¬ (9999 : Int32) < a
  rotate_left
  · refine no ?_ ?_
    · unfold f_X10_years
      by_cases d : a < 0
      · rw [if_pos d]
      · rw [if_neg d, if_pos (Classical.byContradiction (fun z => c1 ⟨d, z⟩))]
    · unfold f_X11_years
      rw [ck_p pm.1.1, bd_e, m_within, cl_s, yesF c1, if_pos rfl]
  by_cases c2 : ¬ b < 1 ∧ ¬ (99 : Int32) < b
  rotate_left
  · refine no ?_ ?_
    · unfold f_X10_years
      rw [if_neg c1.1, if_neg c1.2]
      by_cases d : b < 1
      · rw [if_pos d]
      · rw [if_neg d, if_pos (Classical.byContradiction (fun z => c2 ⟨d, z⟩))]
    · unfold f_X11_years
      rw [ck_p pm.1.1, bd_e, m_within, cl_s, yesT c1, if_neg one0, m_within, cl_s, yesF c2, if_pos rfl]
  by_cases c3 : ¬ c < 0 ∧ ¬ (2 : Int32) < c
  rotate_left
  · refine no ?_ ?_
    · unfold f_X10_years
      rw [if_neg c1.1, if_neg c1.2, if_neg c2.1, if_neg c2.2]
      by_cases d : c < 0
      · rw [if_pos d]
      · rw [if_neg d, if_neg (fun z => c3 ⟨d, fun z2 => by rw [fa_le] at z; rw [fa_lt] at z2; omega⟩)]
    · unfold f_X11_years
      rw [ck_p pm.1.1, bd_e, m_within, cl_s, yesT c1, if_neg one0, m_within, cl_s, yesT c2, if_neg one0, m_within, cl_s, yesF c3, if_pos rfl]
  obtain ⟨wh, hwh, rfl⟩ : ∃ wh, wh < 3 ∧ c = nI wh := by
    obtain ⟨k, hk, rfl⟩ := nI_of c3.1
    have := c3.2
    rw [show (2 : Int32) = nI 2 from rfl, nI_ltI (by decide) hk] at this
    exact ⟨k, by omega, rfl⟩
  obtain ⟨T, hT, rfl⟩ : ∃ T, T ≤ 99 ∧ b = nI T := by
    have nb : ¬ b < 0 := fun z => c2.1 (by rw [fa_lt] at z ⊢; rw [show (1 : Int32).toInt = 1 by decide]; rw [show (0 : Int32).toInt = 0 by decide] at z; omega)
    obtain ⟨k, hk, rfl⟩ := nI_of nb
    have := c2.2
    rw [show (99 : Int32) = nI 99 from rfl, nI_ltI (by decide) hk] at this
    exact ⟨k, by omega, rfl⟩
  obtain ⟨ha, a1, a2, a3⟩ := c_copy (N := N) (h := h) (d := x + 16) (s := x + 3 + 1) (by omega) ob.dr ob.st cM.1
  have oba := ob.shp (x := x) a2.shp
  have pva := pv.ex a2 (fun z z1 z2 z3 => by unfold inS at z3; omega)
  obtain ⟨hb, b1, b2, b3⟩ := c_y57 (N := N) (by omega) (S := M.1) (g := a.toInt64) hT hJ5 hwh wM.1 N 0 ha (by omega) (by omega) oba pva (cM.1.ex a2 (fun z z1 z2 z3 => by unfold inS at z3; omega)) a3
  have r0 : nI (yR A M.1 a.toInt64 0) = (0 : Int32) := (by decide : nI 0 = (0 : Int32))
  have r0' : nI (yC A M.1 a.toInt64 0) = (0 : Int32) := (by decide : nI 0 = (0 : Int32))
  have n0 : nI 0 = (0 : Int32) := by decide
  have t0 : (yT A M.1 a.toInt64 0).2 = a.toInt64 := rfl
  rw [r0, n0, t0] at b1
  have cls : f_X10_years N x a (nI T) (nI wh) h = some (yA A M.1 a.toInt64 T wh, hb) := by
    unfold f_X10_years
    rw [if_neg c1.1, if_neg c1.2, if_neg c2.1, if_neg c2.2, if_neg c3.1, if_pos (fa_of_nlt c3.2), ck_p ob.k9, ob.R4, rq_s, ob.R1, rq_s, ck_p ob.mt.1, ob.mt.2.1.1, rq_s, ck_p ob.dr.1, a1, cl_s, bd_e]
    exact b1
  have tC : Ex (inSV (x + 16) v) h hb := (a2.mono (fun z hz => Or.inl hz)).trans b2
  have t2 : Ex (fun z => z < y) h hb := tC.mono (fun z hz => by unfold inSV inS at hz; omega)
  obtain ⟨pmh, rSh, k54, rPh, ey1, -⟩ := ref_at q t2 (fun z hz => hz)
  have mh := pmh.1
  have ky : hK hb y = 10 := by rw [t2.1.1]; exact pm.1.1
  have hzb : y + 48 ≤ hz (sI hb y 0 0) := by
    show y + 48 ≤ hz hb
    rw [t2.2.1]; omega
  have yh : Kx x (fun z => z ≠ y) hb (sI hb y 0 0) := (Ex.sI (P := fun z => z = y) rfl).kx (fun z hz => hz)
  -- the seed is laid
  have yj : Kx x (fun z => z ≠ y) (sI hb y 0 0) (sJ (sI hb y 0 0) y 65 a.toInt64) := ⟨Sm.sJ.shp rfl, fun z hz => ⟨rfl, by rw [hJ_sJ]; exact up2_a _ _ _ hz⟩⟩
  have eJ : hJ (sJ (sI hb y 0 0) y 65 a.toInt64) y 65 = a.toInt64 := by rw [hJ_sJ]; exact up2_self _ _ _ _
  have pmj : MA N (sJ (sI hb y 0 0) y 65 a.toInt64) y A := pmh.kx yj (fun z z1 z2 => by omega) hzb (by omega)
  have rSj : RS (hI (sJ (sI hb y 0 0) y 65 a.toInt64) (y + 37)) 0 M.1 := rSh
  have ej54 : hI (sJ (sI hb y 0 0) y 65 a.toInt64) y 54 = nI pc := k54
  have ej1 : hI (sJ (sI hb y 0 0) y 65 a.toInt64) y 1 = nI tn := ey1
  have hzj : y + 48 ≤ hz (sJ (sI hb y 0 0) y 65 a.toInt64) := hzb
  have ref1 : f_X11_years N y a (nI T) (nI wh) hb = (cl (f_X11_copies N (y + 37) (0 : Int32) (y + 38) (0 : Int32) (sJ (sI hb y 0 0) y 65 a.toInt64)) fun r17 h18 => f_X11_years_65 N N y (nI T) (nI wh) (0 : Int32) (0 : Int32) (0 : Int32) h18) := by
    unfold f_X11_years
    rw [ck_p ky, bd_e, m_within, cl_s, yesT c1, if_neg one0, m_within, cl_s, yesT c2, if_neg one0, m_within, cl_s, yesT c3, if_neg one0, ck_p mh.1, bd_e, ck_p pmj.1.1, mR_s pmj.1, rq_s, mR_aside pmj.1, rq_s]
  generalize sJ (sI hb y 0 0) y 65 a.toInt64 = h0 at yj eJ pmj rSj ej54 ej1 hzj ref1
  have mj := pmj.1
  obtain ⟨hc, d1, d2, d3, d4⟩ := m_copies (N := N) (by omega) (h := h0) (a := y + 37) (c := y + 38) (b := 0) (e := 0) (na := 32) (nc := 32) (by omega) (by omega) (by omega) (by decide) (by decide) ⟨mK_s mj, mN_s mj⟩ ⟨mK_aside mj, mN_aside mj⟩
  have d1 : f_X11_copies N (y + 37) 0 (y + 38) 0 h0 = _ := d1
  have pmc := pmj.ex d2 (fun z z1 z2 z3 => by omega)
  have yst : Yst N x y A (hI h0 (y + 37)) hc M.1 a.toInt64 := ⟨pmc, rSj.ex d2 (by omega), by rw [d2.2.2.1]; exact eJ, fun j hj => by
    have := d3 j hj
    rw [Nat.zero_add] at this
    exact this, by rw [d2.2.1]; exact hzj, by omega⟩
  obtain ⟨he, e1, e2, e3, e4⟩ := m_y65 (N := N) (x := x) (y := y) (by omega) (F := hI h0 (y + 37)) (g := a.toInt64) hW hT hJ5 hwh wM.1 N 0 hc (by omega) (by omega) yst
  rw [r0, r0', n0] at e1
  refine wp2 (h2 := he) cls ky (by rw [ref1, d1, cl_s]; exact e1) ?_
  have eyy : ∀ j, j ≠ 55 → j ≠ 56 → hI he y j = hI h0 y j := fun j j1 j2 => by rw [e4 j j1 j2, d2.2.2.2 y (by omega)]
  have rs : RS (hI he (y + 37)) 0 M.1 := rSj.cp (fun j hj => by rw [Nat.zero_add]; exact e3 j hj)
  have kk : Kx x (fun z => ¬ (z = y ∨ inM y z ∨ z = y + 37 ∨ z = y + 38)) hb he := (((yh.mono (fun z hz e => hz (Or.inl e))).trans (yj.mono (fun z hz e => hz (Or.inl e)))).trans (d2.kx (fun z hz e => hz (Or.inr (Or.inr (Or.inr e)))))).trans (e2.mono (fun z hz e => by unfold inP at e; unfold inM at hz e; omega))
  refine (q.keep2 (h' := he) ((tC.kx (Q := Kp2 x y) (fun z hz => by unfold Kp2 at hz; unfold inSV inS; omega)).trans (kk.mono (fun z hz => by unfold Kp2 at hz; unfold inM; omega))) (b3.kx kk (fun z z1 z2 => by unfold inM; omega) (by rw [t2.2.1]; omega) (by omega)) (by rw [(kk.2 (v + 2) (by unfold inM; omega)).2, tC.2.2.1]) (by rw [eyy 1 (by decide) (by decide), ej1]; exact pT.2.2.1.symm) (by rw [eyy 54 (by decide) (by decide), ej54]; exact pP.1.2.2.2.2.symm) rs).inv
end DY11
