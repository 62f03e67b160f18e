/-! The class's tape: steps, faults, what it stands at. -/
section XS
variable {X : TX} {p : Nat}
theorem xs_0 (h : X.1 ≤ xbg X p) : xty X p = 0 ∧ xnx X p = xbg X p := by
  unfold xty xnx
  rw [if_pos h, if_pos h]
  exact ⟨rfl, rfl⟩
theorem xs_L (h : ¬ X.1 ≤ xbg X p) (q : isL (X.2 (xbg X p)) = true) : xty X p = (if xrun X isL (xbg X p) - xbg X p ≤ 8 then 1 else 4) ∧ xnx X p = xrun X isL (xbg X p) := by
  unfold xty xnx
  rw [if_neg h, if_neg h, if_pos q, if_pos q]
  exact ⟨rfl, rfl⟩
theorem xs_D (h : ¬ X.1 ≤ xbg X p) (n : ¬ isL (X.2 (xbg X p)) = true) (q : isD (X.2 (xbg X p)) = true) : xty X p = (if xrun X isD (xbg X p) - xbg X p ≤ 4 then 2 else 4) ∧ xnx X p = xrun X isD (xbg X p) := by
  unfold xty xnx
  rw [if_neg h, if_neg h, if_neg n, if_neg n, if_pos q, if_pos q]
  exact ⟨rfl, rfl⟩
theorem xs_G (h : ¬ X.1 ≤ xbg X p) (n : ¬ isL (X.2 (xbg X p)) = true) (n2 : ¬ isD (X.2 (xbg X p)) = true) : xty X p = (if isG (X.2 (xbg X p)) = true then 3 else 4) ∧ xnx X p = xbg X p + 1 := by
  unfold xty xnx
  rw [if_neg h, if_neg h, if_neg n, if_neg n, if_neg n2, if_neg n2]
  exact ⟨rfl, rfl⟩
end XS
section CST
variable {N x : Nat} {X : TX}
theorem wrf_kx {h h' : PH} {P : Nat → Prop} (g : Kx x P h h') (c : Nat) : wrf h' c = wrf h c := by
  unfold wrf
  rw [g.1.1]
theorem z_60 (hN : 2000 ≤ N) {p : Nat} (hp : p ≤ X.1) {h : PH} (tb : TB X x h) (e2 : hI h (x + 1) 2 = nI (xbg X p)) : ∃ h', f_X5_step_60 N (x + 1) h = some ((), h') ∧ Kx x (fun z => z ≠ x + 1) h h' ∧ hI h' (x + 1) 1 = hI h (x + 1) 1 ∧ hI h' (x + 1) 8 = hI h (x + 1) 8 ∧ TK X x h' p := by
  have hb := xbg_le (X := X) hp
  have l1 := tb.2.2.2.1.1
  have f1 : hI (sR (sI h (x + 1) 4 (nI (xbg X p))) (x + 1) 7 none) (x + 1) = va_up (hI h (x + 1)) 4 (nI (xbg X p)) := hI_sI_eq
  have k1 : Kx x (fun z => z ≠ x + 1) h (sR (sI h (x + 1) 4 (nI (xbg X p))) (x + 1) 7 none) := tkx.trans tkR
  have R0 : hR (sR (sI h (x + 1) 4 (nI (xbg X p))) (x + 1) 7 none) (x + 1) 0 = some (x + 1 + 1) := by rw [up2R _ _ _ _ (Or.inr (by decide))]; exact tb.1.2.1
  have un1 : f_X5_step_60 N (x + 1) h = (ck (hK (sR (sI h (x + 1) 4 (nI (xbg X p))) (x + 1) 7 none) (x + 1) = 5) <| if hI (sR (sI h (x + 1) 4 (nI (xbg X p))) (x + 1) 7 none) (x + 1) 2 < hI (sR (sI h (x + 1) 4 (nI (xbg X p))) (x + 1) 7 none) (x + 1) 1 then rq (hR (sR (sI h (x + 1) 4 (nI (xbg X p))) (x + 1) 7 none) (x + 1) 0) fun a7 => ck (hK (sR (sI h (x + 1) 4 (nI (xbg X p))) (x + 1) 7 none) a7 = 11) <| ck (inb (hI (sR (sI h (x + 1) 4 (nI (xbg X p))) (x + 1) 7 none) (x + 1) 2) (COneSmokeLaw_law_r9589_37766e.hN (sR (sI h (x + 1) 4 (nI (xbg X p))) (x + 1) 7 none) a7)) <| cl (f_X5_isLetter N (hI (sR (sI h (x + 1) 4 (nI (xbg X p))) (x + 1) 7 none) a7 (ix (hI (sR (sI h (x + 1) 4 (nI (xbg X p))) (x + 1) 7 none) (x + 1) 2))) (sR (sI h (x + 1) 4 (nI (xbg X p))) (x + 1) 7 none)) fun r10 h11 => if r10 = 0 then ck (hK h11 (x + 1) = 5) <| rq (hR h11 (x + 1) 0) fun a14 => ck (hK h11 a14 = 11) <| ck (inb (hI h11 (x + 1) 2) (COneSmokeLaw_law_r9589_37766e.hN h11 a14)) <| cl (f_X5_isDigit N (hI h11 a14 (ix (hI h11 (x + 1) 2))) h11) fun r17 h18 => if r17 = 0 then ck (hK h18 (x + 1) = 5) <| rq (hR h18 (x + 1) 0) fun a21 => ck (hK h18 a21 = 11) <| ck (inb (hI h18 (x + 1) 2) (COneSmokeLaw_law_r9589_37766e.hN h18 a21)) <| ck ((hW h18 29) = hW h18 29) <| cl (f_J0_indexOf_0f7a4 N (hW h18 29) (hI h18 a21 (ix (hI h18 (x + 1) 2))) h18) fun r24 h25 => if r24 < 0 then f_X5_step_167 N (0 : Int32) (x + 1) (x + 1) h25 else ck (hK h25 (x + 1) = 5) <| rq (hR h25 (x + 1) 0) fun a29 => ck (hK h25 a29 = 11) <| ck (inb (hI h25 (x + 1) 2) (COneSmokeLaw_law_r9589_37766e.hN h25 a29)) <| f_X5_step_167 N (hI h25 a29 (ix (hI h25 (x + 1) 2))) (x + 1) (x + 1) h25 else ck (hK h18 (x + 1) = 5) <| cl (f_X5_takeNumber N (x + 1) h18) fun r32 h33 => some ((), h33) else ck (hK h11 (x + 1) = 5) <| cl (f_X5_takeWord N (x + 1) h11) fun r35 h36 => some ((), h36) else bd (sI (sR (sI h (x + 1) 4 (nI (xbg X p))) (x + 1) 7 none) (x + 1) 3 (1 : Int32)) fun h38 => some ((), h38)) := by
    unfold f_X5_step_60
    rw [ck_p tb.1.1, e2, bd_e, ck_p (show hK (sI h (x + 1) 4 (nI (xbg X p))) (x + 1) = 5 from tb.1.1), bd_e]
  rw [un1]
  generalize sR (sI h (x + 1) 4 (nI (xbg X p))) (x + 1) 7 none = g at f1 k1 R0
  have tg : TB X x g := tb.kx k1 (by rw [f1, va_ne (by decide)])
  have g2 : hI g (x + 1) 2 = nI (xbg X p) := by rw [f1, va_ne (by decide)]; exact e2
  have g4 : hI g (x + 1) 4 = nI (xbg X p) := by rw [f1, va_eq]
  have g1 : hI g (x + 1) 1 = hI h (x + 1) 1 := by rw [f1, va_ne (by decide)]
  have g8 : hI g (x + 1) 8 = hI h (x + 1) 8 := by rw [f1, va_ne (by decide)]
  obtain ⟨p1, p2, p3, ⟨p4, p4'⟩, p5, p6⟩ := id tg
  have R0 : hR g (x + 1) 0 = some (x + 2) := R0
  have K2 : hK g (x + 2) = 11 := p1.2.2.1
  have N2 : COneSmokeLaw_law_r9589_37766e.hN g (x + 2) = 1000 := p1.2.2.2
  rw [ck_p p1.1, g2, p5, ite_i (nI_ltI (by omega) (by omega))]
  by_cases c : xbg X p < X.1
  rotate_left
  · obtain ⟨s1, s2⟩ := xs_0 (X := X) (p := p) (by omega)
    have f3 : hI (sI g (x + 1) 3 1) (x + 1) = va_up (hI g (x + 1)) 3 1 := hI_sI_eq
    rw [if_neg c, bd_e]
    refine ⟨_, rfl, k1.trans tkx, by rw [f3, va_ne (by decide)]; exact g1, by rw [f3, va_ne (by decide)]; exact g8, ?_, ?_, ?_, fun z => by omega, fun z => by omega⟩
    · rw [f3, va_ne (by decide), s2]; exact g2
    · unfold xkc
      rw [f3, va_eq, if_pos s1]
    · rw [f3, va_ne (by decide)]; exact g4
  have nc : ¬ X.1 ≤ xbg X p := by omega
  have ch := p4' _ c
  have jp : inb (nI (xbg X p)) 1000 := nI_ix (by omega) (by decide)
  have xp : ix (nI (xbg X p)) = xbg X p := ix_nI (by omega)
  rw [if_pos c, R0, rq_s, ck_p K2, N2, ck_p jp, xp, p6 _ c, z_isL (by omega), cl_s, ite_i yb0]
  by_cases qL : isL (X.2 (xbg X p)) = true
  · obtain ⟨s1, s2⟩ := xs_L nc qL
    obtain ⟨h', r1, r2, r3, r4, r5, r6⟩ := z_takeWord hN c qL tg g2 g4
    rw [if_neg (by rw [qL]; decide), ck_p p1.1, r1, cl_s]
    refine ⟨h', rfl, k1.trans r2, (r3 1 (by decide) (by decide)).trans g1, (r3 8 (by decide) (by decide)).trans g8, by rw [s2]; exact r4, ?_, (r3 4 (by decide) (by decide)).trans g4, fun z => ?_, fun z => ?_⟩
    · rw [r5]
      unfold xkc
      rw [s1]
      by_cases q : xrun X isL (xbg X p) - xbg X p ≤ 8
      · rw [if_pos q, if_pos q]; rfl
      · rw [if_neg q, if_neg q]; rfl
    · unfold xwv
      rw [s2]
      refine r6 ?_
      rw [s1] at z
      by_cases q : xrun X isL (xbg X p) - xbg X p ≤ 8
      · exact q
      · rw [if_neg q] at z; omega
    · rw [s1] at z
      split at z <;> omega
  rw [if_pos (by simpa using qL), ck_p p1.1, R0, rq_s, ck_p K2, N2, g2, ck_p jp, xp, p6 _ c, z_isD (by omega), cl_s, ite_i yb0]
  by_cases qD : isD (X.2 (xbg X p)) = true
  · obtain ⟨s1, s2⟩ := xs_D nc qL qD
    obtain ⟨h', r1, r2, r3, r4, r5, r6⟩ := z_takeNumber hN c tg g2 g4
    rw [if_neg (by rw [qD]; decide), ck_p p1.1, r1, cl_s]
    refine ⟨h', rfl, k1.trans r2, (r3 1 (by decide) (by decide) (by decide)).trans g1, (r3 8 (by decide) (by decide) (by decide)).trans g8, by rw [s2]; exact r4, ?_, (r3 4 (by decide) (by decide) (by decide)).trans g4, fun z => ?_, fun z => ?_⟩
    · rw [r5]
      unfold xkc
      rw [s1]
      by_cases q : xrun X isD (xbg X p) - xbg X p ≤ 4
      · rw [if_pos q, if_pos q]; rfl
      · rw [if_neg q, if_neg q]; rfl
    · rw [s1] at z
      split at z <;> omega
    · unfold xnv
      rw [s2]
      exact r6
  obtain ⟨s1, s2⟩ := xs_G nc qL qD
  have fin : ∀ v : Int32, v = xkc X p → ∃ h', f_X5_step_167 N v (x + 1) (x + 1) g = some ((), h') ∧ Kx x (fun z => z ≠ x + 1) h h' ∧ hI h' (x + 1) 1 = hI h (x + 1) 1 ∧ hI h' (x + 1) 8 = hI h (x + 1) 8 ∧ TK X x h' p := fun v hv => by
    have f3 : hI (sI g (x + 1) 3 v) (x + 1) = va_up (hI g (x + 1)) 3 v := hI_sI_eq
    have f4 : hI (sI (sI g (x + 1) 3 v) (x + 1) 2 (nI (xbg X p + 1))) (x + 1) = va_up (va_up (hI g (x + 1)) 3 v) 2 (nI (xbg X p + 1)) := by rw [hI_sI_eq, f3]
    unfold f_X5_step_167
    rw [ck_p p1.1, bd_e, ck_p (show hK (sI g (x + 1) 3 v) (x + 1) = 5 from p1.1), f3, va_ne (by decide), g2, nI_1, bd_e]
    refine ⟨_, rfl, (k1.trans tkx).trans tkx, by rw [f4, va_ne (by decide), va_ne (by decide)]; exact g1, by rw [f4, va_ne (by decide), va_ne (by decide)]; exact g8, ?_, ?_, ?_, fun z => ?_, fun z => ?_⟩
    · rw [f4, va_eq, s2]
    · rw [f4, va_ne (by decide), va_eq]; exact hv
    · rw [f4, va_ne (by decide), va_ne (by decide)]; exact g4
    · rw [s1] at z
      split at z <;> omega
    · rw [s1] at z
      split at z <;> omega
  have s128 : X.2 (xbg X p) < 128 := by omega
  rw [if_pos (by simpa using qD), ck_p p1.1, R0, rq_s, ck_p K2, N2, g2, ck_p jp, xp, p6 _ c, ck_p rfl, z_indexOf (by omega) s128, cl_s, ite_i (gix_8 _ s128)]
  by_cases qG : isG (X.2 (xbg X p)) = true
  · rw [if_neg (by rw [qG]; decide), ck_p p1.1, R0, rq_s, ck_p K2, N2, g2, ck_p jp, xp, p6 _ c]
    refine fin _ ?_
    unfold xkc
    rw [s1, if_pos qG]
    rfl
  · rw [if_pos (by simpa using qG)]
    refine fin _ ?_
    unfold xkc
    rw [s1, if_neg qG]
    rfl
end CST
/-! Where a reader is: its fault (0: none), and where it reads on. -/
abbrev ZS : Type := Nat × Nat
def stp (X : TX) (s : ZS) : ZS := if s.1 = 0 then (0, xnx X s.2) else s
def flt (X : TX) (k : Nat) (s : ZS) : ZS := if s.1 = 0 then (k + 16 * xbg X s.2, s.2) else s
def sWd (X : TX) (s : ZS) (i : Nat) : Bool := decide (s.1 = 0) && decide (xty X s.2 = 1) && decide (kid (xwv X s.2) = i)
def sSg (X : TX) (s : ZS) (c : Nat) : Bool := decide (s.1 = 0) && decide (xty X s.2 = 3) && decide (xgn X s.2 = c)
def sNu (X : TX) (s : ZS) : Bool := decide (s.1 = 0) && decide (xty X s.2 = 2)
def sNm (X : TX) (s : ZS) : Bool := decide (s.1 = 0) && decide (xty X s.2 = 1) && decide (22 ≤ kid (xwv X s.2))
theorem sWd_i {X : TX} {s : ZS} {i : Nat} : sWd X s i = true ↔ (s.1 = 0 ∧ xty X s.2 = 1 ∧ kid (xwv X s.2) = i) := by unfold sWd; rw [Bool.and_eq_true, Bool.and_eq_true, decide_eq_true_eq, decide_eq_true_eq, decide_eq_true_eq, and_assoc]
theorem sSg_i {X : TX} {s : ZS} {c : Nat} : sSg X s c = true ↔ (s.1 = 0 ∧ xty X s.2 = 3 ∧ xgn X s.2 = c) := by unfold sSg; rw [Bool.and_eq_true, Bool.and_eq_true, decide_eq_true_eq, decide_eq_true_eq, decide_eq_true_eq, and_assoc]
theorem sNu_i {X : TX} {s : ZS} : sNu X s = true ↔ (s.1 = 0 ∧ xty X s.2 = 2) := by unfold sNu; rw [Bool.and_eq_true, decide_eq_true_eq, decide_eq_true_eq]
theorem sNm_i {X : TX} {s : ZS} : sNm X s = true ↔ (s.1 = 0 ∧ xty X s.2 = 1 ∧ 22 ≤ kid (xwv X s.2)) := by unfold sNm; rw [Bool.and_eq_true, Bool.and_eq_true, decide_eq_true_eq, decide_eq_true_eq, decide_eq_true_eq, and_assoc]
/-- the class's tape stands where s says -/
def CZ (X : TX) (x : Nat) (h : PH) (s : ZS) : Prop := TB X x h ∧ s.2 ≤ X.1 ∧ s.1 ≤ 16100 ∧ hI h (x + 1) 8 = nI s.1 ∧ (s.1 = 0 → TK X x h s.2)
section CZS
variable {N x : Nat} {X : TX} {s : ZS} {h : PH}
theorem z_step (hN : 2000 ≤ N) (z : CZ X x h s) : ∃ h', f_X5_step N (x + 1) h = some ((), h') ∧ Kx x (fun z => z ≠ x + 1) h h' ∧ CZ X x h' (stp X s) := by
  obtain ⟨tb, z2, z1, z8, zt⟩ := id z
  unfold f_X5_step stp
  rw [ck_p tb.1.1, z8, ite_i (show nI s.1 = 0 ↔ s.1 = 0 from nI_eq (b := 0) (by omega) (by decide))]
  by_cases c : s.1 = 0
  · have tk := zt c
    have l := xnx_le (X := X) z2
    have l1 := tb.2.2.2.1.1
    obtain ⟨g, r1, r2, r3, r4⟩ := z_sk (N := N) (x := x) (X := X) N (xnx X s.2) h (by omega) l tb tk.1
    obtain ⟨h', s1, s2, s3, s4, s5⟩ := z_60 hN l (tb.kx r2 (r3 1 (by decide))) r4
    rw [if_pos c, if_pos c, r1]
    refine ⟨h', s1, r2.trans s2, tb.kx (r2.trans s2) (s3.trans (r3 1 (by decide))), l, Nat.zero_le _, ?_, fun _ => s5⟩
    rw [s4, r3 8 (by decide), z8, c]
  · rw [if_neg c, if_neg c]
    exact ⟨h, rfl, Kx.rf, z⟩
theorem z_fail {k : Nat} (hk : 1 ≤ k ∧ k ≤ 5) (z : CZ X x h s) : ∃ h', f_X5_fail N (x + 1) (nI k) h = some ((), h') ∧ Kx x (fun z => z ≠ x + 1) h h' ∧ CZ X x h' (flt X k s) := by
  obtain ⟨tb, z2, z1, z8, zt⟩ := id z
  unfold f_X5_fail flt
  rw [ck_p tb.1.1, z8, ite_i (show nI s.1 = 0 ↔ s.1 = 0 from nI_eq (b := 0) (by omega) (by decide))]
  by_cases c : s.1 = 0
  · have tk := zt c
    have l := xbg_le (X := X) z2
    have l1 := tb.2.2.2.1.1
    have f1 : hI (sI h (x + 1) 8 (nI (k + 16 * xbg X s.2))) (x + 1) = va_up (hI h (x + 1)) 8 (nI (k + 16 * xbg X s.2)) := hI_sI_eq
    rw [if_pos c, if_pos c, tk.2.2.1, show (16 : Int32) = nI 16 from rfl, pk_mul, nI_add, bd_e]
    refine ⟨_, rfl, tkx, tb.kx tkx (by rw [f1, va_ne (by decide)]), z2, ?_, by rw [f1, va_eq], fun q => ?_⟩
    · show k + 16 * xbg X s.2 ≤ 16100
      omega
    · have q : k + 16 * xbg X s.2 = 0 := q
      omega
  · rw [if_neg c, if_neg c]
    exact ⟨h, rfl, Kx.rf, z⟩
theorem z_isAt {i : Nat} (hi : i < 27) (z : CZ X x h s) : f_X5_isAt N (x + 1) (hW h i) h = some (yb (sWd X s i), h) := by
  obtain ⟨tb, z2, z1, z8, zt⟩ := id z
  unfold f_X5_isAt
  rw [ck_p tb.1.1, z8, ite_i (show nI s.1 = 0 ↔ s.1 = 0 from nI_eq (b := 0) (by omega) (by decide))]
  by_cases c : s.1 = 0
  · have tk := zt c
    rw [if_pos c, tk.2.1]
    have ek : xkc X s.2 = 2 ↔ xty X s.2 = 1 := by
      unfold xkc
      constructor
      · intro e
        by_cases q0 : xty X s.2 = 0
        · rw [if_pos q0] at e; exact absurd e (by decide)
        · rw [if_neg q0] at e
          by_cases q1 : xty X s.2 = 1
          · exact q1
          · rw [if_neg q1] at e
            by_cases q2 : xty X s.2 = 2
            · rw [if_pos q2] at e; exact absurd e (by decide)
            · rw [if_neg q2] at e
              by_cases q3 : xty X s.2 = 3
              · have g := isG_iff.mp (xty_3 q3).2.1
                rw [if_pos q3] at e
                have := (nI_eq (b := 2) (show xgn X s.2 < 2 ^ 31 by omega) (by decide)).mp e
                omega
              · rw [if_neg q3] at e; exact absurd e (by decide)
      · intro e
        rw [if_neg (by omega), if_pos e]
    rw [ite_i ek]
    by_cases q : xty X s.2 = 1
    · have t7 := (tk.2.2.2.1 q).2
      have er : wrf h (xwv X s.2) = some (hW h i) ↔ kid (xwv X s.2) = i := by
        unfold wrf
        have l := kid_le (xwv X s.2)
        by_cases w : kid (xwv X s.2) < 27
        · rw [if_pos w]
          exact ⟨fun e => tb.2.2.1 _ _ w hi (Option.some.inj e), fun e => by rw [e]⟩
        · rw [if_neg w]
          exact ⟨fun e => absurd e (by simp), fun e => by omega⟩
      rw [if_pos q, t7, ite_i er]
      by_cases w : kid (xwv X s.2) = i
      · rw [if_pos w, sWd_i.mpr ⟨c, q, w⟩]; rfl
      · rw [if_neg w, show sWd X s i = false from Bool.eq_false_iff.mpr (fun e => w (sWd_i.mp e).2.2)]; rfl
    · rw [if_neg q, show sWd X s i = false from Bool.eq_false_iff.mpr (fun e => q (sWd_i.mp e).2.1)]; rfl
  · rw [if_neg c, show sWd X s i = false from Bool.eq_false_iff.mpr (fun e => c (sWd_i.mp e).1)]; rfl
theorem z_isAtSign {c : Nat} (hc : isG c = true) (z : CZ X x h s) : f_X5_isAtSign N (x + 1) (nI c) h = some (yb (sSg X s c), h) := by
  obtain ⟨tb, z2, z1, z8, zt⟩ := id z
  have gc := isG_iff.mp hc
  unfold f_X5_isAtSign
  rw [ck_p tb.1.1, z8, ite_i (show nI s.1 = 0 ↔ s.1 = 0 from nI_eq (b := 0) (by omega) (by decide))]
  by_cases c0 : s.1 = 0
  · have tk := zt c0
    rw [if_pos c0, tk.2.1]
    have ek : xkc X s.2 = nI c ↔ (xty X s.2 = 3 ∧ xgn X s.2 = c) := by
      unfold xkc
      constructor
      · intro e
        by_cases q0 : xty X s.2 = 0
        · rw [if_pos q0] at e
          have := (nI_eq (a := 1) (by decide) (by omega)).mp e
          omega
        · rw [if_neg q0] at e
          by_cases q1 : xty X s.2 = 1
          · rw [if_pos q1] at e
            have := (nI_eq (a := 2) (by decide) (by omega)).mp e
            omega
          · rw [if_neg q1] at e
            by_cases q2 : xty X s.2 = 2
            · rw [if_pos q2] at e
              have := (nI_eq (a := 3) (by decide) (by omega)).mp e
              omega
            · rw [if_neg q2] at e
              by_cases q3 : xty X s.2 = 3
              · have g := isG_iff.mp (xty_3 q3).2.1
                rw [if_pos q3] at e
                exact ⟨q3, (nI_eq (by omega) (by omega)).mp e⟩
              · rw [if_neg q3] at e
                have := (nI_eq (a := 0) (by decide) (by omega)).mp e
                omega
      · intro e
        rw [if_neg (by omega), if_neg (by omega), if_neg (by omega), if_pos e.1, e.2]
    rw [ite_i ek]
    by_cases q : xty X s.2 = 3 ∧ xgn X s.2 = c
    · rw [if_pos q, sSg_i.mpr ⟨c0, q.1, q.2⟩]; rfl
    · rw [if_neg q, show sSg X s c = false from Bool.eq_false_iff.mpr (fun e => q (sSg_i.mp e).2)]; rfl
  · rw [if_neg c0, show sSg X s c = false from Bool.eq_false_iff.mpr (fun e => c0 (sSg_i.mp e).1)]; rfl
theorem z_isAtNumber (z : CZ X x h s) : f_X5_isAtNumber N (x + 1) h = some (yb (sNu X s), h) := by
  obtain ⟨tb, z2, z1, z8, zt⟩ := id z
  unfold f_X5_isAtNumber
  rw [ck_p tb.1.1, z8, ite_i (show nI s.1 = 0 ↔ s.1 = 0 from nI_eq (b := 0) (by omega) (by decide))]
  by_cases c0 : s.1 = 0
  · have tk := zt c0
    rw [if_pos c0, tk.2.1]
    have ek : xkc X s.2 = 3 ↔ xty X s.2 = 2 := by
      unfold xkc
      constructor
      · intro e
        by_cases q0 : xty X s.2 = 0
        · rw [if_pos q0] at e; exact absurd e (by decide)
        · rw [if_neg q0] at e
          by_cases q1 : xty X s.2 = 1
          · rw [if_pos q1] at e; exact absurd e (by decide)
          · rw [if_neg q1] at e
            by_cases q2 : xty X s.2 = 2
            · exact q2
            · rw [if_neg q2] at e
              by_cases q3 : xty X s.2 = 3
              · have g := isG_iff.mp (xty_3 q3).2.1
                rw [if_pos q3] at e
                have := (nI_eq (b := 3) (show xgn X s.2 < 2 ^ 31 by omega) (by decide)).mp e
                omega
              · rw [if_neg q3] at e; exact absurd e (by decide)
      · intro e
        rw [if_neg (by omega), if_neg (by omega), if_pos e]
    rw [ite_i ek]
    by_cases q : xty X s.2 = 2
    · rw [if_pos q, sNu_i.mpr ⟨c0, q⟩]; rfl
    · rw [if_neg q, show sNu X s = false from Bool.eq_false_iff.mpr (fun e => q (sNu_i.mp e).2)]; rfl
  · rw [if_neg c0, show sNu X s = false from Bool.eq_false_iff.mpr (fun e => c0 (sNu_i.mp e).1)]; rfl
theorem xkc_2 {p : Nat} : xkc X p = 2 ↔ xty X p = 1 := by
  unfold xkc
  constructor
  · intro e
    by_cases q0 : xty X p = 0
    · rw [if_pos q0] at e; exact absurd e (by decide)
    · rw [if_neg q0] at e
      by_cases q1 : xty X p = 1
      · exact q1
      · rw [if_neg q1] at e
        by_cases q2 : xty X p = 2
        · rw [if_pos q2] at e; exact absurd e (by decide)
        · rw [if_neg q2] at e
          by_cases q3 : xty X p = 3
          · have g := isG_iff.mp (xty_3 q3).2.1
            rw [if_pos q3] at e
            have := (nI_eq (b := 2) (show xgn X p < 2 ^ 31 by omega) (by decide)).mp e
            omega
          · rw [if_neg q3] at e; exact absurd e (by decide)
  · intro e
    rw [if_neg (by omega), if_pos e]
theorem xkc_1 {p : Nat} : xkc X p = 1 ↔ xty X p = 0 := by
  unfold xkc
  constructor
  · intro e
    by_cases q0 : xty X p = 0
    · exact q0
    · rw [if_neg q0] at e
      by_cases q1 : xty X p = 1
      · rw [if_pos q1] at e; exact absurd e (by decide)
      · rw [if_neg q1] at e
        by_cases q2 : xty X p = 2
        · rw [if_pos q2] at e; exact absurd e (by decide)
        · rw [if_neg q2] at e
          by_cases q3 : xty X p = 3
          · have g := isG_iff.mp (xty_3 q3).2.1
            rw [if_pos q3] at e
            have := (nI_eq (b := 1) (show xgn X p < 2 ^ 31 by omega) (by decide)).mp e
            omega
          · rw [if_neg q3] at e; exact absurd e (by decide)
  · intro e
    rw [if_pos e]
theorem z_isAtName (z : CZ X x h s) : f_X5_isAtName N (x + 1) h = some (yb (sNm X s), h) := by
  obtain ⟨tb, z2, z1, z8, zt⟩ := id z
  unfold f_X5_isAtName
  rw [ck_p tb.1.1, z8, ite_i (show nI s.1 = 0 ↔ s.1 = 0 from nI_eq (b := 0) (by omega) (by decide))]
  by_cases c0 : s.1 = 0
  · have tk := zt c0
    rw [if_pos c0, tk.2.1, ite_i xkc_2]
    by_cases q : xty X s.2 = 1
    · have t7 := (tk.2.2.2.1 q).2
      have l := kid_le (xwv X s.2)
      rw [if_pos q, t7]
      unfold wrf
      by_cases w : kid (xwv X s.2) < 27
      · rw [if_pos w, if_neg (by simp), rq_s, wix_W tb.2.2.1 w, rq_s, ite_i (wkept_lt _ w)]
        by_cases u : 22 ≤ kid (xwv X s.2)
        · rw [if_pos u, sNm_i.mpr ⟨c0, q, u⟩]; rfl
        · rw [if_neg u, show sNm X s = false from Bool.eq_false_iff.mpr (fun e => u (sNm_i.mp e).2.2)]; rfl
      · rw [if_neg w, if_pos rfl, sNm_i.mpr ⟨c0, q, by omega⟩]; rfl
    · rw [if_neg q, show sNm X s = false from Bool.eq_false_iff.mpr (fun e => q (sNm_i.mp e).2.1)]; rfl
  · rw [if_neg c0, show sNm X s = false from Bool.eq_false_iff.mpr (fun e => c0 (sNm_i.mp e).1)]; rfl
theorem z_isSound (z : CZ X x h s) : f_X5_isSound N (x + 1) h = some (yb (decide (s.1 = 0)), h) := by
  obtain ⟨tb, z2, z1, z8, zt⟩ := id z
  unfold f_X5_isSound
  rw [ck_p tb.1.1, z8, ite_i (show nI s.1 = 0 ↔ s.1 = 0 from nI_eq (b := 0) (by omega) (by decide))]
  by_cases c0 : s.1 = 0
  · rw [if_pos c0, decide_eq_true c0]; rfl
  · rw [if_neg c0, decide_eq_false c0]; rfl
theorem z_isOver (z : CZ X x h s) : f_X5_isOver N (x + 1) h = some (yb (!(decide (s.1 = 0) && !decide (xty X s.2 = 0))), h) := by
  obtain ⟨tb, z2, z1, z8, zt⟩ := id z
  unfold f_X5_isOver
  rw [ck_p tb.1.1, z8, ite_i (show nI s.1 = 0 ↔ s.1 = 0 from nI_eq (b := 0) (by omega) (by decide))]
  by_cases c0 : s.1 = 0
  · rw [if_pos c0, (zt c0).2.1, ite_i xkc_1, decide_eq_true c0]
    by_cases q : xty X s.2 = 0
    · rw [if_pos q, decide_eq_true q]; rfl
    · rw [if_neg q, decide_eq_false q]; rfl
  · rw [if_neg c0, decide_eq_false c0]; rfl
end CZS
