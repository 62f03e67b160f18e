/-! The duty of judged: the loops. -/
def jA (A : AV) (D : AD) (wh : Nat) : Int32 := if wh = 0 then nI (jB A D D.1) + (-1) else if wh = 1 then nI (jR A D D.1) else nI (fb_sm (tS (jS A D D.1)) 3)
section JL
variable {N x y : Nat} {A : AV} {D : AD}
theorem c_jl (hN : 2000 ≤ N) {v w wh : Nat} (hwh : wh < 3) (hD : WD A D) : ∀ (n k : Nat) (h : PH), D.1 < n + k → k ≤ D.1 → OB h x v w → VA h v A → CD h (x + 3 + 6) D → CS h (x + 16) (jS A D k) → ∃ h', f_X10_judged_30 N n x (nI wh) (nI (jB A D k) + (-1)) (nI (jR A D k)) (nI k) h = some (jA A D wh, h') ∧ Ex (inSV (x + 16) v) h h' ∧ VA h' v A
  | 0, k, h, h1, h2, _, _, _, _ => by omega
  | n + 1, k, h, h1, h2, ob, p, cD, cS => by
    have hW := p.2.2.1
    have h40 := hD.1
    have vw := ob.1
    have dj : Dj (x + 16) v := by unfold Dj; omega
    have ws := WSj hW hD k h2
    have bB := jB_le (A := A) (D := D) k
    show ∃ h', f_X10_judged_30_b N (f_X10_judged_30 N n) x _ _ _ _ h = _ ∧ _
    unfold f_X10_judged_30_b
    rw [ck_p ob.k9, ob.R1, rq_s, ck_p ob.mt.1, ob.mt.2.1.2.1, rq_s, ck_p ob.mt.2.2.2.1.1, cD.1, ite_i (nI_leI (by omega) (by omega))]
    by_cases c : D.1 ≤ k
    · have e : k = D.1 := by omega
      subst e
      refine ⟨h, ?_, Ex.rf, p⟩
      unfold jA
      rw [if_pos c, ite_i (show nI wh = 0 ↔ wh = 0 from nI_eq (b := 0) (by omega) (by decide))]
      by_cases w0 : wh = 0
      · rw [if_pos w0, if_pos w0]
      · rw [if_neg w0, if_neg w0, ite_i (show nI wh = 1 ↔ wh = 1 from nI_eq (b := 1) (by omega) (by decide))]
        by_cases w1 : wh = 1
        · rw [if_pos w1, if_pos w1]
        · rw [if_neg w1, if_neg w1, ob.R4, rq_s, ck_p ob.dr.1, c_sootOfAll (by omega) ob.dr cS, cl_s]
    · have hk : k < D.1 := by omega
      have e5 : nI k * (5 : Int32) = nI (5 * k) := by rw [show (5 : Int32) = nI 5 from rfl, pk_mul, Nat.mul_comm]
      have dd := (hD.2 k hk).1
      have isH : f_X0_isHour N (x + 3 + 6) (nI k) h = some (yes (D.2 (5 * k) = 2), h) := by
        unfold f_X0_isHour
        rw [if_neg (nI_pos (by omega)), ck_p ob.mt.2.2.2.1.1, cD.1, if_neg (nI_ge hk (by omega)), ob.mt.2.2.2.1.2.1, rq_s, ck_p ob.mt.2.2.2.1.2.2.1, ob.mt.2.2.2.1.2.2.2, e5, ck_p (nI_ix (by omega) (by decide)), ix_nI (by omega), cD.2 _ (by omega), ite_i (show nI (D.2 (5 * k)) = 2 ↔ D.2 (5 * k) = 2 from nI_eq (b := 2) (by omega) (by decide))]
        unfold yes
        split <;> rfl
      -- behind the look at whether it is an hour
      have rest : ∀ g, Ex (inSV (x + 16) v) h g → OB g x v w → VA g v A → CD g (x + 3 + 6) D → CS g (x + 16) (jS A D k) → ∃ h', f_X10_judged_74 N (f_X10_judged_30 N n) x (nI wh) (nI (jB A D k) + (-1)) (nI (jR A D (k + 1))) (nI k) g = some (jA A D wh, h') ∧ Ex (inSV (x + 16) v) h h' ∧ VA h' v A := by
        intro g eg obg pg cDg cSg
        obtain ⟨g2, r1, r2, r3, r4⟩ := c_play hN dj obg.mt.2.2.2.1 cDg hD hk pg obg.dr cSg ws (by omega)
        have ob2 := obg.shp (x := x) r2.shp
        have cD2 : CD g2 (x + 3 + 6) D := by
          have q1 := r2.2.2.2 (x + 3 + 6) (by unfold inSV inS; omega)
          have q2 := r2.2.2.2 (x + 3 + 6 + 1) (by unfold inSV inS; omega)
          unfold CD at cDg ⊢
          rw [q1, q2]; exact cDg
        unfold f_X10_judged_74
        rw [ck_p obg.k9, obg.R1, rq_s, ck_p obg.mt.1, obg.mt.2.1.2.1, rq_s, obg.R4, rq_s, obg.R8, rq_s, ck_p obg.mt.2.2.2.1.1, r1, cl_s, ite_i yb0, ite_i (bm1 (by omega))]
        unfold f_X10_judged_105
        obtain ⟨h', s1, s2, s3⟩ := c_jl hN hwh hD n (k + 1) g2 (by omega) (by omega) ob2 r3 cD2 r4
        refine ⟨h', ?_, (eg.trans r2).trans s2, s3⟩
        simp only [bd_e, nI_1]
        rw [show jB A D (k + 1) = if plB D k (jS A D k) = true then jB A D k else if jB A D k = 0 then k + 1 else jB A D k from rfl] at s1
        by_cases pb : plB D k (jS A D k) = true
        · rw [if_neg (by rw [pb]; decide)]
          rw [if_pos pb] at s1
          exact s1
        · rw [if_pos (by simpa using pb)]
          rw [if_neg pb] at s1
          by_cases b0 : jB A D k = 0
          · rw [if_pos b0]
            rw [if_pos b0, pk_m1] at s1
            exact s1
          · rw [if_neg b0]
            rw [if_neg b0] at s1
            exact s1
      rw [if_neg c, rq_s, ck_p ob.mt.1, ob.mt.2.1.2.1, rq_s, ck_p ob.mt.2.2.2.1.1, isH, cl_s]
      by_cases h2' : D.2 (5 * k) = 2
      · obtain ⟨g, r1, r2, r3⟩ := c_signsRead hN dj p ob.dr cS ws (by omega)
        have eR : jR A D (k + 1) = jR A D k + sgs A (jS A D k) (aC A 1) := if_pos h2'
        have eg : Ex (inSV (x + 16) v) h g := r2.ex.mono (fun z hz => Or.inr hz)
        have q1 := eg.2.2.2 (x + 3 + 6) (by unfold inSV inS; omega)
        have q2 := eg.2.2.2 (x + 3 + 6 + 1) (by unfold inSV inS; omega)
        rw [yesT h2', if_neg one0, ck_p ob.k9, ob.R4, rq_s, ob.R8, rq_s, ck_p ob.dr.1, r1, cl_s, nI_add, bd_e, ← eR]
        exact rest g eg (ob.shp (x := x) eg.shp) r3 (by unfold CD at cD ⊢; rw [q1, q2]; exact cD) (cS.gx dj r2)
      · have eR : jR A D (k + 1) = jR A D k := if_neg h2'
        rw [yesF h2', if_pos rfl, ← eR]
        exact rest h Ex.rf ob p cD cS
theorem m_jl (hN : 2000 ≤ N) {wh : Nat} (hwh : wh < 3) (hD : WD A D) {F : Nat → Int32} : ∀ (n k : Nat) (h : PH), D.1 < n + k → k ≤ D.1 → MA N h y A → RD h y 0 D → RS (hI h (y + 37)) 0 (jS A D k) → (∀ j, j < 32 → hI h (y + 38) j = F j) → ∃ h', f_X11_judged_41 N n y (nI wh) (nI (jB A D k) + (-1)) (nI (jR A D k)) (nI k) h = some (jA A D wh, h') ∧ Ex (inP y) h h' ∧ (∀ j, j < 32 → hI h' (y + 37) j = F j) ∧ ∀ j, j ≠ 55 → j ≠ 56 → hI h' y j = hI h y j
  | 0, k, h, h1, h2, _, _, _, _ => by omega
  | n + 1, k, h, h1, h2, p, rD, rS, hF => by
    have m := p.1
    have hW := p.2.2.1
    have h40 := hD.1
    have ws := WSj hW hD k h2
    have bB := jB_le (A := A) (D := D) k
    show ∃ h', f_X11_judged_41_b N (f_X11_judged_41 N n) y _ _ _ _ h = _ ∧ _
    unfold f_X11_judged_41_b
    rw [ck_p m.1, mR_lines m, rq_s, ck_p (mK_lines m), mN_lines m, ck_p (by decide), rD.1, ite_i (nI_leI (by omega) (by omega))]
    by_cases c : D.1 ≤ k
    · have e : k = D.1 := by omega
      subst e
      obtain ⟨g, c1, c2, c3, c4⟩ := m_copies (N := N) (by omega) (h := h) (a := y + 38) (c := y + 37) (b := 0) (e := 0) (na := 32) (nc := 32) (by omega) (by omega) (by omega) (by decide) (by decide) ⟨mK_aside m, mN_aside m⟩ ⟨mK_s m, mN_s m⟩
      have c1 : f_X11_copies N (y + 38) 0 (y + 37) 0 h = _ := c1
      refine ⟨g, ?_, c2.mono (fun z hz => Or.inr (Or.inl hz)), fun j hj => ?_, fun j _ _ => by rw [c2.2.2.2 y (by omega)]⟩
      · unfold jA
        rw [if_pos c, m_sootOfAll m rS, cl_s, ck_p m.1, mR_aside m, rq_s, mR_s m, rq_s, c1, cl_s, ite_i (show nI wh = 0 ↔ wh = 0 from nI_eq (b := 0) (by omega) (by decide))]
        by_cases w0 : wh = 0
        · rw [if_pos w0, if_pos w0]
        · rw [if_neg w0, if_neg w0, ite_i (show nI wh = 1 ↔ wh = 1 from nI_eq (b := 1) (by omega) (by decide))]
          by_cases w1 : wh = 1
          · rw [if_pos w1, if_pos w1]
          · rw [if_neg w1, if_neg w1]
      · have := c3 j hj
        rw [Nat.zero_add] at this
        rw [this]
        exact hF j hj
    · have hk : k < D.1 := by omega
      obtain ⟨w0, -, -⟩ := rD.2 k hk
      rw [show 40 * 0 + k = k by omega] at w0
      have dd := (hD.2 k hk).1
      rw [if_neg c, mR_lineWhat m, rq_s, ck_p (mK_lineWhat m), mN_lineWhat m, ck_p (nI_ix (by omega) (by decide)), ix_nI (by omega), w0, ite_i (show nI (D.2 (5 * k)) = 2 ↔ D.2 (5 * k) = 2 from nI_eq (b := 2) (by omega) (by decide))]
      have eB : jB A D (k + 1) = if plB D k (jS A D k) = true then jB A D k else if jB A D k = 0 then k + 1 else jB A D k := rfl
      have eS : jS A D (k + 1) = plS A D k (jS A D k) := rfl
      unfold f_X11_judged_94
      by_cases h2' : D.2 (5 * k) = 2
      · obtain ⟨g, r1, r2, r3, r4, r5, r6⟩ := m_passes hN p rS ws (by omega)
        have eR : jR A D (k + 1) = jR A D k + sgs A (jS A D k) (aC A 1) := if_pos h2'
        have pg := p.ex r2 (fun z z1 z2 z3 => by unfold inP inM at z3; omega)
        have rDg : RD g y 0 D := by
          have e : ∀ j, 27 ≤ j → j ≤ 32 → hI g (y + j) = hI h (y + j) := fun j j1 j2 => r2.2.2.2 _ (by unfold inP inM; omega)
          unfold RD at rD ⊢
          rw [e 27 (by decide) (by decide), e 28 (by decide) (by decide), e 29 (by decide) (by decide), e 30 (by decide) (by decide), e 31 (by decide) (by decide), e 32 (by decide) (by decide)]
          exact rD
        rw [(pl2 (A := A) h2').2, if_pos rfl] at eB
        rw [(pl2 (D := D) h2').1] at eS
        obtain ⟨h', s1, s2, s3, s4⟩ := m_jl hN hwh hD (F := F) n (k + 1) g (by omega) (by omega) pg rDg (by rw [eS]; exact r3) (fun j hj => by rw [r2.2.2.2 (y + 38) (by unfold inP inM; omega)]; exact hF j hj)
        rw [eB, eR] at s1
        refine ⟨h', ?_, r2.trans s2, s3, fun j j1 j2 => by rw [s4 j j1 j2, r6 j j1 j2]⟩
        rw [if_pos h2', r1, cl_s, ck_p pg.1.1, r4, nI_add, bd_e, bd_e, nI_1]
        exact s1
      · have eR : jR A D (k + 1) = jR A D k := if_neg h2'
        obtain ⟨g, r1, r2, r3⟩ := m_goes (N := N) p rS rD hD hk ws h2'
        have pg := p.ex r2 (fun z z1 z2 z3 => by omega)
        have rDg : RD g y 0 D := by
          have e : ∀ j, 27 ≤ j → j ≤ 32 → hI g (y + j) = hI h (y + j) := fun j j1 j2 => r2.2.2.2 _ (by omega)
          unfold RD at rD ⊢
          rw [e 27 (by decide) (by decide), e 28 (by decide) (by decide), e 29 (by decide) (by decide), e 30 (by decide) (by decide), e 31 (by decide) (by decide), e 32 (by decide) (by decide)]
          exact rD
        obtain ⟨h', s1, s2, s3, s4⟩ := m_jl hN hwh hD (F := F) n (k + 1) g (by omega) (by omega) pg rDg (by rw [eS]; exact r3) (fun j hj => by rw [r2.2.2.2 (y + 38) (by omega)]; exact hF j hj)
        rw [eB, eR] at s1
        refine ⟨h', ?_, (r2.mono (fun z hz => Or.inr (Or.inl hz))).trans s2, s3, fun j j1 j2 => by rw [s4 j j1 j2, r2.2.2.2 y (by omega)]⟩
        rw [if_neg h2', r1, cl_s, ite_i yb0, ite_i (bm1' (by omega))]
        simp only [bd_e, nI_1]
        by_cases pb : plB D k (jS A D k) = true
        · rw [if_neg (by rw [pb]; decide)]
          rw [if_pos pb] at s1
          exact s1
        · rw [if_pos (by simpa using pb)]
          rw [if_neg pb] at s1
          by_cases b0 : jB A D k = 0
          · rw [if_neg (fun z => z b0)]
            rw [if_pos b0, pk_m1] at s1
            exact s1
          · rw [if_pos b0]
            rw [if_neg b0] at s1
            exact s1
end JL
section DY9
variable {N x y o J : Nat}
theorem d_judged (hN2 : 2001 ≤ N) : D_judged (INV N x y o J) (INV N x y o (J + 1)) N x y := by
  intro a h ⟨v, w, A, M, pn, pc, P, lb, K, tn, tb, q⟩
  obtain ⟨p0, ob, pv, pm, pnm, ⟨cM, rS, rD, rR, wM⟩, pP, pK, pT⟩ := id q
  have y0 := p0.1
  have vw := ob.1
  have hW := pv.2.2.1
  by_cases c : ¬ a < 0 ∧ ¬ (2 : Int32) < a
  rotate_left
  · have q2 := q.thr 0
    refine wp2 (r := -2) (h1 := h) (h2 := sI h y 0 0) ?_ pm.1.1 ?_ q2.inv
    · unfold f_X10_judged
      by_cases d : a < 0
      · rw [if_pos d]
      · rw [if_neg d, if_neg (fun z => c ⟨d, fun z2 => by rw [fa_le] at z; rw [fa_lt] at z2; omega⟩)]
    · unfold f_X11_judged
      rw [ck_p pm.1.1, bd_e, m_within, cl_s, yesF c, if_pos rfl]
  obtain ⟨wh, hwh, rfl⟩ : ∃ wh, wh < 3 ∧ a = nI wh := by
    obtain ⟨k, hk, rfl⟩ := nI_of c.1
    have := c.2
    rw [show (2 : Int32) = nI 2 from rfl, nI_ltI (by decide) hk] at this
    exact ⟨k, by omega, rfl⟩
  obtain ⟨ha, a1, a2, a3⟩ := c_begin (N := N) hN2 q.djd ob.dr pv.1 pv.2.1
  have oba := ob.shp (x := x) a2.shp
  have pva := pv.ex a2 (fun z z1 z2 z3 => by unfold inS at z3; omega)
  have cDa : CD ha (x + 3 + 6) M.2.1 := cM.2.1.kx (a2.kx (x := x) (Q := fun z => z < x + 16) (fun z hz => by unfold inS; omega)) (fun z z1 z2 => by omega)
  obtain ⟨hb, b1, b2, b3⟩ := c_jl (N := N) (by omega) hwh wM.2.1 N 0 ha (by have := wM.2.1.1; omega) (by omega) oba pva cDa a3
  have z1 : nI (jB A M.2.1 0) + (-1 : Int32) = -1 := (by decide : nI 0 + (-1 : Int32) = -1)
  have z2 : nI (jR A M.2.1 0) = (0 : Int32) := (by decide : nI 0 = (0 : Int32))
  have z3 : nI 0 = (0 : Int32) := by decide
  rw [z1, z2, z3] at b1
  have cls : f_X10_judged N x (nI wh) h = some (jA A M.2.1 wh, hb) := by
    unfold f_X10_judged
    rw [if_neg c.1, if_pos (fa_of_nlt c.2), ck_p ob.k9, ob.R4, rq_s, ob.R8, rq_s, ck_p ob.dr.1, a1, cl_s]
    exact b1
  have tC : Ex (inSV (x + 16) v) h hb := (a2.mono (fun z hz => Or.inl hz)).trans b2
  have t2 : Ex (fun z => z < y) h hb := tC.mono (fun z hz => by unfold inSV inS at hz; omega)
  obtain ⟨pmh, rSh, k54, rPh, ey1, -⟩ := ref_at q t2 (fun z hz => hz)
  have mh := pmh.1
  have ky : hK hb y = 10 := by rw [t2.1.1]; exact pm.1.1
  have yh : Ex (fun z => z = y) hb (sI hb y 0 0) := Ex.sI rfl
  have rDh : RD (sI hb y 0 0) y 0 M.2.1 := rD.kx (((t2.kx (x := x) (Q := fun z => y < z) (fun z hz => by omega))).trans (yh.kx (Q := fun z => y < z) (fun z hz => by omega))) (fun z z1 z2 => by omega)
  have ref1 : f_X11_judged N y (nI wh) hb = (cl (f_X11_copies N (y + 37) (0 : Int32) (y + 38) (0 : Int32) (sI hb y 0 0)) fun r9 h10 => ck (hK h10 y = 10) <| cl (f_X11_fresh N y h10) fun r11 h12 => f_X11_judged_41 N N y (nI wh) (-1 : Int32) (0 : Int32) (0 : Int32) h12) := by
    unfold f_X11_judged
    rw [ck_p ky, bd_e, m_within, cl_s, yesT c, if_neg one0, ck_p mh.1, mR_s mh, rq_s, mR_aside mh, rq_s]
  have nh : ∀ k, 1 ≤ k → hI (sI hb y 0 0) (y + k) = hI h (y + k) := fun k hk => by rw [hI_sI_ne (by omega), t2.2.2.2 (y + k) (by omega)]
  generalize hh0 : sI hb y 0 0 = h0 at pmh rSh k54 rPh ey1 mh yh rDh ref1 nh
  obtain ⟨hc, c1, c2, c3, c4⟩ := m_copies (N := N) (by omega) (h := h0) (a := y + 37) (c := y + 38) (b := 0) (e := 0) (na := 32) (nc := 32) (by omega) (by omega) (by omega) (by decide) (by decide) ⟨mK_s mh, mN_s mh⟩ ⟨mK_aside mh, mN_aside mh⟩
  have c1 : f_X11_copies N (y + 37) 0 (y + 38) 0 h0 = _ := c1
  have pmc := pmh.ex c2 (fun z z1 z2 z3 => by omega)
  obtain ⟨hd, d1, d2, d3⟩ := m_fresh (N := N) (by omega) hW pmc.1 pmc.2.1
  have pmd := pmc.ex d2 (fun z z1 z2 z3 => by omega)
  have rDd : RD hd y 0 M.2.1 := rDh.kx ((c2.kx (x := x) (Q := fun z => y + 27 ≤ z ∧ z ≤ y + 32) (fun z hz => by omega)).trans (d2.kx (x := x) (Q := fun z => y + 27 ≤ z ∧ z ≤ y + 32) (fun z hz => by omega))) (fun z z1 z2 => ⟨z1, z2⟩)
  obtain ⟨he, e1, e2, e3, e4⟩ := m_jl (N := N) (by omega) hwh wM.2.1 (F := hI h0 (y + 37)) N 0 hd (by have := wM.2.1.1; omega) (by omega) pmd rDd d3 (fun j hj => by
    rw [d2.2.2.2 (y + 38) (by omega)]
    have := c3 j hj
    rw [Nat.zero_add] at this
    exact this)
  rw [z1, z2, z3] at e1
  refine wp2 (h2 := he) cls ky (by rw [ref1, c1, cl_s, ck_p pmc.1.1, d1, cl_s]; exact e1) ?_
  have ty : Ex (fun z => z = y ∨ inM y z ∨ z = y + 37 ∨ z = y + 38) hb he := (((yh.mono (Q := fun z => z = y ∨ inM y z ∨ z = y + 37 ∨ z = y + 38) (fun z hz => by omega)).trans (c2.mono (Q := fun z => z = y ∨ inM y z ∨ z = y + 37 ∨ z = y + 38) (fun z hz => by omega))).trans (d2.mono (Q := fun z => z = y ∨ inM y z ∨ z = y + 37 ∨ z = y + 38) (fun z hz => by omega))).trans (e2.mono (Q := fun z => z = y ∨ inM y z ∨ z = y + 37 ∨ z = y + 38) (fun z hz => by unfold inP at hz; unfold inM at hz ⊢; omega))
  have eyy : ∀ j, j ≠ 55 → j ≠ 56 → hI he y j = hI h0 y j := fun j j1 j2 => by rw [e4 j j1 j2, d2.2.2.2 y (by omega), c2.2.2.2 y (by omega)]
  have rs : RS (hI he (y + 37)) 0 M.1 := rSh.cp (fun j hj => by rw [Nat.zero_add]; exact e3 j hj)
  refine (q.keep2 (h' := he) ((tC.kx (Q := Kp2 x y) (fun z hz => by unfold Kp2 at hz; unfold inSV inS; omega)).trans (ty.kx (Q := Kp2 x y) (fun z hz => by unfold Kp2 at hz; unfold inM; omega))) (b3.ex ty (fun z z1 z2 z3 => by unfold inM at z3; omega)) (by rw [ty.2.2.1, tC.2.2.1]) (by rw [eyy 1 (by decide) (by decide), ey1]; exact pT.2.2.1.symm) (by rw [eyy 54 (by decide) (by decide), k54]; exact pP.1.2.2.2.2.symm) rs).inv
end DY9
