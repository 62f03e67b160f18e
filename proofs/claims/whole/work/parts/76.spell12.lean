/-! The duty of spell, the class's side: the second hour's search. -/
def SW (A : AV) (S : AS) (x v f : Nat) (w1 w2 : Int32) (h : PH) : Prop := SV A S x v f w1 w2 h ∧ SM A S x f h 0
/-- the first hour's choices of the houses below k are written -/
def FRs (A : AV) (x f : Nat) (h : PH) (u : Nat → Nat) (k : Nat) : Prop := ∀ j, j < k → (aHs A f).testBit j = true → hI h (x + 31 + 2) (rkX (aHs A f) j) = cm (u j)
/-- behind the guards -/
def g2R (R_X3_goSecond : Nat → Int32 → Int32 → Int32 → Int32 → PH → Option (Int32 × PH)) (N : Nat) (l0 : Nat) (l1 l2 l3 l4 : Int32) (h : PH) : Option (Int32 × PH) :=
        ck (hK h l0 = 3) <|
        if l1 < (hI h l0 5) then
          rq (hR h l0 0) fun a9 =>
          ck (hK h a9 = 12) <|
          ck (inb l1 (hN h a9)) <|
          bd ((hI h a9 (ix l1))) fun v12 =>
          rq (hR h l0 1) fun a13 =>
          ck (hK h a13 = 12) <|
          ck (inb l1 (hN h a13)) <|
          bd ((hI h a13 (ix l1))) fun v16 =>
          rq (hR h l0 4) fun a17 =>
          ck (hK h a17 = 4) <|
          cl (f_X4_burns N a17 v12 h) fun r18 h19 =>
          if r18 = 0 then
            f_X3_goSecond_109 R_X3_goSecond N v16 l0 l1 l2 l3 l4 v12 v16 h19
          else
            ck (hK h19 l0 = 3) <|
            rq (hR h19 l0 4) fun a23 =>
            ck (hK h19 a23 = 4) <|
            rq (hR h19 a23 2) fun a25 =>
            ck (hK h19 a25 = 12) <|
            ck (inb v12 (hN h19 a25)) <|
            f_X3_goSecond_109 R_X3_goSecond N (hI h19 a25 (ix v12)) l0 l1 l2 l3 l4 v12 v16 h19
        else
          rq (hR h l0 3) fun a28 =>
          ck (hK h a28 = 6) <|
          cl (f_X6_signOf N a28 l2 l3 h) fun r29 h30 =>
          ck (hK h30 l0 = 3) <|
          if r29 = (hI h30 l0 7) then
            some ((1 : Int32), h30)
          else
            some ((0 : Int32), h30)
section SPB
variable {N x J v f : Nat} {A : AV} {S : AS} {w1 w2 : Int32} {u : Nat → Nat}
theorem yb01 {b : Bool} : yb b = 0 ∨ yb b = 1 := by cases b <;> decide
theorem SW.gx {h h' : PH} (hv : x + 37 ≤ v) (g : Gx v h h') (hV : VA h' v A) (p : SW A S x v f w1 w2 h) : SW A S x v f w1 w2 h' := ⟨p.1.gx hv g hV, p.2.gx hv g⟩
theorem FRs.gx {h h' : PH} {k : Nat} (hv : x + 37 ≤ v) (g : Gx v h h') (p : FRs A x f h u k) : FRs A x f h' u k := fun j hj t => by
  rw [g.2.2.2 (x + 31 + 2) (by omega) (by omega) (by omega)]
  exact p j hj t
theorem LU.le5 (h5 : aC A 0 ≤ 5) (lu : LU A S u) : ∀ k, k < 4 → u k ≤ 5 := fun k hk => by
  rcases lu k hk with e | ⟨-, e, -⟩ <;> omega
theorem cmq_eq {n g : Nat} (hn : n ≤ 5) (hg : g < 5) : nI g = cm n ↔ g = n := by
  unfold cm
  by_cases c : n = 5
  · rw [if_pos c]
    exact ⟨fun z => absurd z (ni1 (by omega)), fun z => by omega⟩
  · rw [if_neg c]
    exact nI_eq (by omega) (by omega)
theorem al2 (h5 : aC A 0 ≤ 5) (lu : LU A S u) {j g : Nat} (hj : j < 4) (hg : g < aC A 0) (hz : tL (S2 A S u) j = 0) : al A (S2 A S u) j g = true ↔ (if g = u j then 1 else 0) < tT S (5 * j + g) := by
  have n5 : ¬ g = 5 := by omega
  unfold al
  rw [s2_T (lu.le5 h5) hj (by omega), Bool.or_eq_true, Bool.and_eq_true, decide_eq_true_eq, decide_eq_true_eq, decide_eq_true_eq]
  by_cases c : u j = g
  · rw [if_pos c, if_pos c.symm]; omega
  · rw [if_neg c, if_neg (fun z => c z.symm)]; omega
/-- the fuels that a house may light in the second hour, from g on, then none -/
theorem c_224 (hN : 2000 ≤ N) (hv : x + 37 ≤ v) (hT : WS A J S) (lu : LU A S u) {j n K : Nat} (hK : K < 2 ^ 29) {w : Nat → Nat} (hbK : bn w ≤ K) {RR : Nat → Int32 → Int32 → Int32 → Int32 → PH → Option (Int32 × PH)} (hj : j < 4) (tj : (aHs A f).testBit j = true) (hz : tL (S2 A S u) j = 0) (hw : ∀ i, j ≤ i → w i = 5)
    (hR : ∀ w' h, (∀ i, j + 1 ≤ i → w' i = 5) → SW A S x v f w1 w2 h → FRs A x f h u 4 → ∃ h', RR (x + 31) (nI (rkX (aHs A f) (j + 1))) (nI (sD A (S2 A S u) f (aWind A (tH S + 1)) w' 0 (j + 1))) (nI (sD A (S2 A S u) f (aWind A (tH S + 1)) w' 1 (j + 1))) (dfK K (bn w')) h = some (yb ((ws (noF A (S2 A S u) f) (al A (S2 A S u)) n (j + 1) w').any (q2F A (S2 A S u) f w2 K)), h') ∧ Gx v h h' ∧ VA h' v A) :
    ∀ (m g : Nat) (h : PH), aC A 0 < m + g → g ≤ aC A 0 → SW A S x v f w1 w2 h → FRs A x f h u 4 → ∃ h', f_X3_goSecond_224 RR N m (x + 31) (nI (rkX (aHs A f) j)) (nI (sD A (S2 A S u) f (aWind A (tH S + 1)) w 0 j)) (nI (sD A (S2 A S u) f (aWind A (tH S + 1)) w 1 j)) (dfK K (bn w)) (nI j) (cm (u j)) (nI g) h = some (yb (((cl6 (al A (S2 A S u) j) (6 - g) g).flatMap (fun g => ws (noF A (S2 A S u) f) (al A (S2 A S u)) n (j + 1) (va_up w j g))).any (q2F A (S2 A S u) f w2 K)), h') ∧ Gx v h h' ∧ VA h' v A
  | 0, g, h, h1, h2, _, _ => by omega
  | m + 1, g, h, h1, h2, sw, fr => by
    obtain ⟨sp, ⟨r3, r4⟩, pv, hS, hC, ⟨q5, q6, q7, q8, q9⟩, hh⟩ := id sw.1
    have hW := pv.2.2.1
    have h5 := hW.1.1
    have hT2 := s2_W hW lu hT
    have hw5 := hw j (Nat.le_refl j)
    show ∃ h', f_X3_goSecond_224_b RR N (f_X3_goSecond_224 RR N m) (x + 31) _ _ _ _ _ _ _ h = _ ∧ _
    unfold f_X3_goSecond_224_b
    rw [ck_p sp.1, r3, rq_s, ck_p pv.1.1, vR_many pv.1, rq_s, ck_p (vK_many pv.1), vN_many pv.1, ck_p (by decide), pv.2.1.1 0 (by decide), ite_i (nI_leI (by omega) (by omega))]
    by_cases e : aC A 0 ≤ g
    · have eg : g = aC A 0 := by omega
      obtain ⟨h', t1, t2, t3⟩ := hR w h (fun i hi => hw i (by omega)) sw fr
      rw [rkX_s tj, sD_yes tj, sD_yes tj, gb_none hT2 hj hz hw5, gb_none hT2 hj hz hw5] at t1
      simp only [Nat.add_zero] at t1
      rw [if_pos e, nI_1, t1, cl_s, ck_p yb01]
      refine ⟨h', ?_, t2, t3⟩
      rw [show 6 - g = (5 - g) + 1 by omega, cl6_no (al5 A _ j) (5 - g) g (by omega) (fun f h1 h2 => al_hi (by omega) h2)]
      show _ = some (yb ((ws _ _ n (j + 1) (va_up w j 5) ++ []).any _), h')
      rw [List.append_nil, va_self hw5]
    · have ecl : cl6 (al A (S2 A S u) j) (6 - g) g = if al A (S2 A S u) j g = true then g :: cl6 (al A (S2 A S u) j) (6 - (g + 1)) (g + 1) else cl6 (al A (S2 A S u) j) (6 - (g + 1)) (g + 1) := by
        rw [show 6 - g = (6 - (g + 1)) + 1 by omega]
        rfl
      have u5' := lu.le5 h5 j hj
      have ea := al2 h5 lu hj (show g < aC A 0 by omega) hz
      have tl := hT.2.2.1 (5 * j + g) (by omega)
      have go : ∀ lim : Nat, lim = (if g = u j then 1 else 0) → ∃ h', f_X3_goSecond_261 RR N (f_X3_goSecond_224 RR N m) (nI lim) (nI (tT S (5 * j + g))) (x + 31) (nI (rkX (aHs A f) j)) (nI (sD A (S2 A S u) f (aWind A (tH S + 1)) w 0 j)) (nI (sD A (S2 A S u) f (aWind A (tH S + 1)) w 1 j)) (dfK K (bn w)) (nI j) (cm (u j)) (nI g) h = some (yb (((cl6 (al A (S2 A S u) j) (6 - g) g).flatMap (fun g => ws (noF A (S2 A S u) f) (al A (S2 A S u)) n (j + 1) (va_up w j g))).any (q2F A (S2 A S u) f w2 K)), h') ∧ Gx v h h' ∧ VA h' v A := fun lim hl => by
        have hl1 : lim ≤ 1 := by rw [hl]; split <;> omega
        rw [← hl] at ea
        unfold f_X3_goSecond_261 f_X3_goSecond_320
        rw [ite_i (nI_leI (by omega) (by omega)), ecl]
        by_cases t : al A (S2 A S u) j g = true
        · obtain ⟨ha, a1, a2, a3⟩ := c_fresh (N := N) hN pv (f := g) (w := aWind A (tH S + 1)) (b := 0) (by omega) (aWind_le hW _) (by decide)
          have swa := sw.gx hv a2 a3
          have fra := fr.gx hv a2
          obtain ⟨hb, b1, b2, b3⟩ := c_fresh (N := N) hN a3 (f := g) (w := aWind A (tH S + 1)) (b := 1) (by omega) (aWind_le hW _) (by decide)
          have swb := swa.gx hv b2 b3
          have frb := fra.gx hv b2
          have a1 : f_X6_fresh N v (nI g) (nI (aWind A (tH S + 1))) 0 h = _ := a1
          have b1 : f_X6_fresh N v (nI g) (nI (aWind A (tH S + 1))) 1 ha = _ := b1
          obtain ⟨hc, c1, c2, c3⟩ := hR (va_up w j g) hb (fun i hi => by rw [va_ne (by omega)]; exact hw i (by omega)) swb frb
          rw [rkX_s tj, sD_yes tj, sD_yes tj, sD_up, sD_up, gb_up hz h5 (by omega), gb_up hz h5 (by omega), bn_up hj hw5 (by omega), ← dfK_1 hK hbK] at c1
          have gg := (a2.trans b2).trans c2
          rw [if_neg (by have := ea.mp t; omega), ck_p sp.1, r3, rq_s, ck_p pv.1.1, q9, a1, cl_s, ck_p swa.1.1.1, swa.1.2.1.1, rq_s, ck_p a3.1.1, swa.1.2.2.2.2.2.1.2.2.2.2, b1, cl_s, ck_p swb.1.1.1, nI_1, nI_1, nI_add, nI_add, c1, cl_s, if_pos t, List.flatMap_cons, List.any_append, ite_i yb0]
          by_cases q : (ws (noF A (S2 A S u) f) (al A (S2 A S u)) n (j + 1) (va_up w j g)).any (q2F A (S2 A S u) f w2 K) = false
          · obtain ⟨h', d1, d2, d3⟩ := c_224 hN hv hT lu hK hbK hj tj hz hw hR m (g + 1) hc (by omega) (by omega) (sw.gx hv gg c3) (fr.gx hv gg)
            rw [if_pos q, q, Bool.false_or, bd_e]
            exact ⟨h', d1, gg.trans d2, d3⟩
          · rw [if_neg q, sQ_t q, Bool.true_or]
            exact ⟨hc, rfl, gg, c3⟩
        · have nt : ¬ lim < tT S (5 * j + g) := fun z => t (ea.mpr z)
          rw [if_pos (by omega), if_neg t, bd_e, nI_1]
          exact c_224 hN hv hT lu hK hbK hj tj hz hw hR m (g + 1) h (by omega) (by omega) sw fr
      rw [if_neg e, r4, rq_s, ck_p hS.1, c_stockOf hS hC hj (by omega), cl_s, ite_i (cmq_eq u5' (by omega))]
      by_cases q : g = u j
      · rw [if_pos q]
        exact go 1 (by rw [if_pos q])
      · rw [if_neg q]
        exact go 0 (by rw [if_neg q])
/-- a house in the second hour: it burns yet, or may light -/
theorem c_160 (hN : 2000 ≤ N) (hv : x + 37 ≤ v) (hT : WS A J S) (lu : LU A S u) {j n K F : Nat} (hK : K < 2 ^ 29) {w : Nat → Nat} (hbK : bn w ≤ K) {RR : Nat → Int32 → Int32 → Int32 → Int32 → PH → Option (Int32 × PH)} {s0 : Int32} (hj : j < 4) (tj : (aHs A f).testBit j = true) (hw : ∀ i, j ≤ i → w i = 5) (hF : F ≤ 1000) (hs : 0 < tL (S2 A S u) j → s0 = nI F + (-1)) (hg : 0 < tL (S2 A S u) j → ∀ w b, gv A (tF (S2 A S u) j) (tL (S2 A S u) j) w b = gv A F (tL (S2 A S u) j) w b)
    (hR : ∀ w' h, (∀ i, j + 1 ≤ i → w' i = 5) → SW A S x v f w1 w2 h → FRs A x f h u 4 → ∃ h', RR (x + 31) (nI (rkX (aHs A f) (j + 1))) (nI (sD A (S2 A S u) f (aWind A (tH S + 1)) w' 0 (j + 1))) (nI (sD A (S2 A S u) f (aWind A (tH S + 1)) w' 1 (j + 1))) (dfK K (bn w')) h = some (yb ((ws (noF A (S2 A S u) f) (al A (S2 A S u)) n (j + 1) w').any (q2F A (S2 A S u) f w2 K)), h') ∧ Gx v h h' ∧ VA h' v A)
    {h : PH} (sw : SW A S x v f w1 w2 h) (fr : FRs A x f h u 4) : ∃ h', f_X3_goSecond_160 RR N (nI (tL (S2 A S u) j)) (x + 31) (nI (rkX (aHs A f) j)) (nI (sD A (S2 A S u) f (aWind A (tH S + 1)) w 0 j)) (nI (sD A (S2 A S u) f (aWind A (tH S + 1)) w 1 j)) (dfK K (bn w)) (nI j) (cm (u j)) s0 h = some (yb ((ws (noF A (S2 A S u) f) (al A (S2 A S u)) (n + 1) j w).any (q2F A (S2 A S u) f w2 K)), h') ∧ Gx v h h' ∧ VA h' v A := by
  obtain ⟨sp, ⟨r3, r4⟩, pv, hS, hC, ⟨q5, q6, q7, q8, q9⟩, hh⟩ := id sw.1
  have hW := pv.2.2.1
  have h5 := hW.1.1
  have hT2 := s2_W hW lu hT
  have tl := (hT2.2.1 j hj).1
  unfold f_X3_goSecond_160
  rw [ite_i (show nI (tL (S2 A S u) j) ≤ 0 ↔ tL (S2 A S u) j ≤ 0 from nI_leI (b := 0) (by omega) (by decide))]
  by_cases z : tL (S2 A S u) j ≤ 0
  · have nb : (noF A (S2 A S u) f).testBit j = true := noF_b.mpr ⟨(aHs_b.mp tj).1, (aHs_b.mp tj).2, by omega⟩
    rw [if_pos z, ws_bit nb]
    exact c_224 hN hv hT lu hK hbK hj tj (by omega) hw hR N 0 h (by omega) (by omega) sw fr
  · have nb : ¬ (noF A (S2 A S u) f).testBit j = true := fun q => by have := (noF_b.mp q).2.2; omega
    obtain ⟨ha, a1, a2, a3⟩ := c_givesOf (N := N) hN pv (F := F) (l := tL (S2 A S u) j) (w := aWind A (tH S + 1)) (b := 0) hF tl (aWind_le hW _) (by decide)
    have swa := sw.gx hv a2 a3
    have fra := fr.gx hv a2
    obtain ⟨hb, b1, b2, b3⟩ := c_givesOf (N := N) hN a3 (F := F) (l := tL (S2 A S u) j) (w := aWind A (tH S + 1)) (b := 1) hF tl (aWind_le hW _) (by decide)
    have swb := swa.gx hv b2 b3
    have frb := fra.gx hv b2
    have a1 : f_X6_givesOf N v (nI F + (-1)) (nI (tL (S2 A S u) j)) (nI (aWind A (tH S + 1))) 0 h = _ := a1
    have b1 : f_X6_givesOf N v (nI F + (-1)) (nI (tL (S2 A S u) j)) (nI (aWind A (tH S + 1))) 1 ha = _ := b1
    obtain ⟨h', c1, c2, c3⟩ := hR w hb (fun i hi => hw i (by omega)) swb frb
    rw [rkX_s tj, sD_yes tj, sD_yes tj, gb_fire (by omega), gb_fire (by omega), hg (by omega), hg (by omega)] at c1
    rw [if_neg z, hs (by omega), ck_p sp.1, r3, rq_s, ck_p pv.1.1, q9, a1, cl_s, ck_p swa.1.1.1, swa.1.2.1.1, rq_s, ck_p a3.1.1, swa.1.2.2.2.2.2.1.2.2.2.2, b1, cl_s, ck_p swb.1.1.1, nI_1, nI_add, nI_add, c1, cl_s, ck_p yb01, ws_nob nb]
    exact ⟨h', rfl, (a2.trans b2).trans c2, c3⟩
/-- the guards: nothing comes of it, or it goes on -/
theorem c_pre2 (hv : x + 37 ≤ v) (hT : WS A J S) (lu : LU A S u) {j n K : Nat} (hK : K < 2 ^ 29) {w : Nat → Nat} {RR : Nat → Int32 → Int32 → Int32 → Int32 → PH → Option (Int32 × PH)} (hn : n + j = 4) (hw2 : w2 = -1 ∨ ∃ k, k < aC A 3 ∧ w2 = nI k) (hw : ∀ i, j ≤ i → w i = 5) {h : PH} (sw : SW A S x v f w1 w2 h) : (f_X3_goSecond_b RR N (x + 31) (nI (rkX (aHs A f) j)) (nI (sD A (S2 A S u) f (aWind A (tH S + 1)) w 0 j)) (nI (sD A (S2 A S u) f (aWind A (tH S + 1)) w 1 j)) (dfK K (bn w)) h = some (0, h) ∧ ∀ z, z ∈ ws (noF A (S2 A S u) f) (al A (S2 A S u)) n j w → ¬ (bn z = K ∧ sbs A (S2 A S u) z f = w2)) ∨ (bn w ≤ K ∧ K + rkX (aHs A f) j ≤ bn w + rkX (aHs A f) 4 ∧ f_X3_goSecond_b RR N (x + 31) (nI (rkX (aHs A f) j)) (nI (sD A (S2 A S u) f (aWind A (tH S + 1)) w 0 j)) (nI (sD A (S2 A S u) f (aWind A (tH S + 1)) w 1 j)) (dfK K (bn w)) h = g2R RR N (x + 31) (nI (rkX (aHs A f) j)) (nI (sD A (S2 A S u) f (aWind A (tH S + 1)) w 0 j)) (nI (sD A (S2 A S u) f (aWind A (tH S + 1)) w 1 j)) (dfK K (bn w)) h) := by
  obtain ⟨sp, ⟨r3, r4⟩, pv, hS, hC, ⟨q5, q6, q7, q8, q9⟩, hh⟩ := id sw.1
  have hW := pv.2.2.1
  have bw := bn_le w
  have b0 := sD_bd (A := A) (S := S2 A S u) hW (f := f) (w := aWind A (tH S + 1)) (b := 0) (u := w) j
  have b1 := sD_bd (A := A) (S := S2 A S u) hW (f := f) (w := aWind A (tH S + 1)) (b := 1) (u := w) j
  have t0 := tlS_bd (V := aHs A f) (mNx_le (S := S) hW (aWind A (tH S + 1)) 0) n j
  have t1 := tlS_bd (V := aHs A f) (mNx_le (S := S) hW (aWind A (tH S + 1)) 1) n j
  have eH := s2_H (A := A) (S := S) u
  have r44 := rkX_le (aHs A f) 4
  have rjl : rkX (aHs A f) j ≤ rkX (aHs A f) 4 := rk_le (by omega)
  obtain ⟨-, s0⟩ := sw.2 j (Nat.zero_le j) (by omega) 0 (by decide)
  obtain ⟨-, s1⟩ := sw.2 j (Nat.zero_le j) (by omega) 1 (by decide)
  rw [show 4 - j = n by omega] at s0 s1
  unfold f_X3_goSecond_b
  rw [ite_i (dfK_neg (by omega) (by omega))]
  by_cases c1 : K < bn w
  · rw [if_pos c1]
    refine Or.inl ⟨rfl, fun z hz hq => ?_⟩
    have := bn_mono (ws_Le hw hz)
    omega
  rw [if_neg c1, ck_p sp.1, q5, pk_sub rjl, ite_i (lt_dfK (by omega) (by omega) (by omega))]
  by_cases c2 : rkX (aHs A f) 4 - rkX (aHs A f) j + bn w < K
  · rw [if_pos c2]
    refine Or.inl ⟨rfl, fun z hz hq => ?_⟩
    have := bn_rk (V := aHs A f) (nf_sub (A := A) (S := S2 A S u) (f := f)) n j w z hn hw hz
    omega
  have ei : nI (rkX (aHs A f) j) * (4 : Int32) + (2 : Int32) = nI (4 * rkX (aHs A f) j + 2) := by
    rw [show (4 : Int32) = nI 4 from rfl, show (2 : Int32) = nI 2 from rfl, pk_mul, nI_add, Nat.mul_comm]
  have as := c_astray (N := N) (w := w2) sp r3 pv (ai := 4 * rkX (aHs A f) j + 2) (by omega) s0 s1 (d := sD A (S2 A S u) f (aWind A (tH S + 1)) w 0 j) (s := sD A (S2 A S u) f (aWind A (tH S + 1)) w 1 j) (by omega) (by omega) hw2
  rw [if_neg c2, q7, ei, as, cl_s, ite_i yb0]
  by_cases c3 : asT A w2 (sD A (S2 A S u) f (aWind A (tH S + 1)) w 0 j) (sD A (S2 A S u) f (aWind A (tH S + 1)) w 1 j) (sD A (S2 A S u) f (aWind A (tH S + 1)) w 0 j + tlS (aHs A f) (mNx A S (aWind A (tH S + 1)) 0) n j) (sD A (S2 A S u) f (aWind A (tH S + 1)) w 1 j + tlS (aHs A f) (mNx A S (aWind A (tH S + 1)) 1) n j) = false
  · rw [if_pos c3]
    exact Or.inr ⟨by omega, by omega, rfl⟩
  · rw [if_neg c3]
    refine Or.inl ⟨rfl, fun z hz hq => ?_⟩
    exact as_ws (A := A) (S := S2 A S u) hW (X := noF A (S2 A S u) f) (f := f) (n := n) (j := j) (u := w) (w := w2) (g0 := mNx A S (aWind A (tH S + 1)) 0) (g1 := mNx A S (aWind A (tH S + 1)) 1) hn (by rw [eH]) (by rw [eH]) hw (fun z' i hi hz' => by rw [eH]; exact ⟨gb_mNx hW hT lu hi hz', gb_mNx hW hT lu hi hz'⟩) hw2 (sQ_t c3) z hz hq.2
theorem c_go2 (hN : 2000 ≤ N) (hv : x + 37 ≤ v) (hT : WS A J S) (lu : LU A S u) {K : Nat} (hK : K < 2 ^ 29) (hw2 : w2 = -1 ∨ ∃ k, k < aC A 3 ∧ w2 = nI k) : ∀ (m j d : Nat) (w : Nat → Nat) (h : PH), m + j = 4 → m < d → (∀ i, j ≤ i → w i = 5) → SW A S x v f w1 w2 h → FRs A x f h u 4 → ∃ h', f_X3_goSecond d N (x + 31) (nI (rkX (aHs A f) j)) (nI (sD A (S2 A S u) f (aWind A (tH S + 1)) w 0 j)) (nI (sD A (S2 A S u) f (aWind A (tH S + 1)) w 1 j)) (dfK K (bn w)) h = some (yb ((ws (noF A (S2 A S u) f) (al A (S2 A S u)) m j w).any (q2F A (S2 A S u) f w2 K)), h') ∧ Gx v h h' ∧ VA h' v A
  | 0, j, d, w, h, hm, hd, hw, sw, fr => by
    have ej : j = 4 := by omega
    subst ej
    obtain ⟨d', rfl⟩ : ∃ d', d = d' + 1 := ⟨d - 1, by omega⟩
    obtain ⟨sp, ⟨r3, r4⟩, pv, hS, hC, ⟨q5, q6, q7, q8, q9⟩, hh⟩ := id sw.1
    have hW := pv.2.2.1
    have b0 := sD_bd (A := A) (S := S2 A S u) hW (f := f) (w := aWind A (tH S + 1)) (b := 0) (u := w) 4
    have b1 := sD_bd (A := A) (S := S2 A S u) hW (f := f) (w := aWind A (tH S + 1)) (b := 1) (u := w) 4
    have eH := s2_H (A := A) (S := S) u
    have x0 := sD_4 (A := A) (S := S2 A S u) hW (f := f) (b := 0) (u := w)
    have x1 := sD_4 (A := A) (S := S2 A S u) hW (f := f) (b := 1) (u := w)
    rw [eH] at x0 x1
    have r44 := rkX_le (aHs A f) 4
    show ∃ h', f_X3_goSecond_b (f_X3_goSecond d' N) N (x + 31) _ _ _ _ h = _ ∧ _
    rcases c_pre2 (N := N) (RR := f_X3_goSecond d' N) hv hT lu hK (n := 0) (j := 4) (w := w) rfl hw2 hw sw with ⟨p1, p2⟩ | ⟨p1, p2, p3⟩
    · rw [p1, any_no p2]
      exact ⟨h, rfl, Gx.rf, pv⟩
    · rw [p3]
      unfold g2R
      rw [ck_p sp.1, q5, if_neg (nI_nlt (Nat.le_refl _) (by omega)), r3, rq_s, ck_p pv.1.1, c_signOf (by omega) pv.1 pv.2.1 hW (by omega) (by omega), cl_s, ck_p sp.1, q7, x0, x1]
      show ∃ h', (if sbs A (S2 A S u) w f = w2 then _ else _) = some (yb (q2F A (S2 A S u) f w2 K w || false), h') ∧ _
      have ek : bn w = K := by omega
      by_cases g : sbs A (S2 A S u) w f = w2
      · have e : q2F A (S2 A S u) f w2 K w = true := decide_eq_true ⟨ek, g⟩
        rw [if_pos g, e]
        exact ⟨h, rfl, Gx.rf, pv⟩
      · have e : q2F A (S2 A S u) f w2 K w = false := decide_eq_false (fun z => g z.2)
        rw [if_neg g, e]
        exact ⟨h, rfl, Gx.rf, pv⟩
  | m + 1, j, d, w, h, hm, hd, hw, sw, fr => by
    by_cases tj : (aHs A f).testBit j = true
    · have hj : j < 4 := by omega
      obtain ⟨d', rfl⟩ : ∃ d', d = d' + 1 := ⟨d - 1, by omega⟩
      obtain ⟨sp, ⟨r3, r4⟩, pv, hS, hC, ⟨q5, q6, q7, q8, q9⟩, hh⟩ := id sw.1
      have hW := pv.2.2.1
      have h5 := hW.1.1
      have hT2 := s2_W hW lu hT
      have r44 := rkX_le (aHs A f) 4
      have r4j := rkX_lt hj tj
      show ∃ h', f_X3_goSecond_b (f_X3_goSecond d' N) N (x + 31) _ _ _ _ h = _ ∧ _
      rcases c_pre2 (N := N) (RR := f_X3_goSecond d' N) hv hT lu hK (n := m + 1) (j := j) (w := w) hm hw2 hw sw with ⟨p1, p2⟩ | ⟨p1, p2, p3⟩
      · rw [p1, any_no p2]
        exact ⟨h, rfl, Gx.rf, pv⟩
      have hR : ∀ w' h, (∀ i, j + 1 ≤ i → w' i = 5) → SW A S x v f w1 w2 h → FRs A x f h u 4 → ∃ h', f_X3_goSecond d' N (x + 31) (nI (rkX (aHs A f) (j + 1))) (nI (sD A (S2 A S u) f (aWind A (tH S + 1)) w' 0 (j + 1))) (nI (sD A (S2 A S u) f (aWind A (tH S + 1)) w' 1 (j + 1))) (dfK K (bn w')) h = some (yb ((ws (noF A (S2 A S u) f) (al A (S2 A S u)) m (j + 1) w').any (q2F A (S2 A S u) f w2 K)), h') ∧ Gx v h h' ∧ VA h' v A := fun w' h k1 k2 k3 => c_go2 hN hv hT lu hK hw2 m (j + 1) d' w' h (by omega) (by omega) k1 k2 k3
      have key : ∀ (F : Nat) (s0 : Int32), F ≤ 1000 → (0 < tL (S2 A S u) j → s0 = nI F + (-1)) → (0 < tL (S2 A S u) j → ∀ w b, gv A (tF (S2 A S u) j) (tL (S2 A S u) j) w b = gv A F (tL (S2 A S u) j) w b) → _ := fun F s0 hF hs hg => c_160 (N := N) (n := m) hN hv hT lu hK p1 (RR := f_X3_goSecond d' N) hj tj hw hF hs hg hR sw fr
      have jr : inb (nI (rkX (aHs A f) j)) 4 := nI_ix (by omega) (by decide)
      have xr : ix (nI (rkX (aHs A f) j)) = rkX (aHs A f) j := ix_nI (by omega)
      have j4 : inb (nI j) 4 := nI_ix hj (by decide)
      have xj : ix (nI j) = j := ix_nI (by omega)
      have luj := lu j hj
      have eL := s2_L (A := A) (S := S) (u := u) hj
      have eG := s2_g (A := A) (S := S) (u := u) hj
      have tT := hT.2.1 j hj
      rw [p3]
      unfold g2R
      rw [ck_p sp.1, q5, if_pos (nI_lt r4j (by omega)), sp.2.1.1, rq_s, ck_p sp.2.2.1.1, sp.2.2.1.2, ck_p jr, xr, hh j hj tj, bd_e, sp.2.1.2.1, rq_s, ck_p sp.2.2.2.1.1, sp.2.2.2.1.2, ck_p jr, fr j hj tj, bd_e, r4, rq_s, ck_p hS.1, c_burns hS hC hT hj, cl_s, ite_i yes0]
      by_cases z : 0 < tL S j
      · have uj : u j = 5 := by
          rcases luj with e | ⟨-, -, e, -⟩
          · exact e
          · omega
        rw [if_pos uj] at eL
        rw [if_neg (fun q => q z), ck_p sp.1, r4, rq_s, ck_p hS.1, sR_fuel hS, rq_s, ck_p (sK_fuel hS), sN_fuel hS, ck_p j4, xj, hC.2.2.1 j hj]
        unfold f_X3_goSecond_109
        rw [ck_p sp.1, r4, rq_s, ck_p hS.1, c_burns hS hC hT hj, cl_s, ite_i yes0, if_neg (fun q => q z), ck_p sp.1, r4, rq_s, ck_p hS.1, sR_left hS, rq_s, ck_p (sK_left hS), sN_left hS, ck_p j4, xj, hC.2.2.2.1 j hj, show (1 : Int32) = nI 1 from rfl, pk_sub (show 1 ≤ tL S j by omega), ← eL]
        refine key (tF S j) _ (by omega) (fun _ => rfl) (fun q w b => ?_)
        rw [eG, eL, if_pos uj, if_pos uj, if_neg (by omega)]
      · rw [if_pos z]
        unfold f_X3_goSecond_109
        rw [ck_p sp.1, r4, rq_s, ck_p hS.1, c_burns hS hC hT hj, cl_s, ite_i yes0, if_pos z]
        by_cases uj : u j = 5
        · have cu5 : cm (u j) = -1 := by unfold cm; rw [if_pos uj]
          rw [if_pos uj] at eL
          rw [if_pos cu5, show (0 : Int32) = nI (tL (S2 A S u) j) by rw [eL, show tL S j - 1 = 0 by omega]; rfl]
          exact key 0 _ (by omega) (fun q => by omega) (fun q => by omega)
        · have ul := (luj.resolve_left uj).2.1
          have cu5 : cm (u j) = nI (u j) := by unfold cm; rw [if_neg uj]
          have hB := hW.2.1 _ ul
          rw [if_neg uj] at eL
          rw [if_neg (by rw [cu5]; exact ni1 (by omega)), ck_p sp.1, r3, rq_s, ck_p pv.1.1, vR_burns pv.1, rq_s, ck_p (vK_burns pv.1), vN_burns pv.1, cu5, ck_p (nI_ix (by omega) (by decide)), ix_nI (by omega), (pv.2.1.2.2.1 _ ul).2.2, show (1 : Int32) = nI 1 from rfl, pk_sub (show 1 ≤ aB A (u j) by omega), ← eL, ← cu5]
          refine key (u j + 1) _ (by omega) (fun _ => by rw [cu5, pk_m1]) (fun q w b => ?_)
          rw [eG, eL, if_neg uj, if_neg uj, if_neg (by omega)]
    · have nb : ¬ (noF A (S2 A S u) f).testBit j = true := fun z => tj (nf_sub j z)
      have key := c_go2 hN hv hT lu hK hw2 m (j + 1) d w h (by omega) (by omega) (fun i hi => hw i (by omega)) sw fr
      rw [rkX_n tj, sD_no tj, sD_no tj] at key
      rw [ws_nob nb]
      exact key
end SPB
