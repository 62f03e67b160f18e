/-! The duty of spell, the class's side: the first hour's search. -/
def g1P (x v z : Nat) : Prop := z = x + 33 ∨ z = v + 13 ∨ z = v + 16 ∨ z = v + 17
/-- what the first hour's search has made of the ways l: the first one by which it can be, or none -/
def G1 (A : AV) (S : AS) (x v f : Nat) (w1 w2 : Int32) (u : Nat → Nat) (j F : Nat) (l : List (Nat → Nat)) (h h' : PH) (r : Int32) : Prop := Ex (g1P x v) h h' ∧ SW A S x v f w1 w2 h' ∧ FRs A x f h' u j ∧ ((∃ z, l.find? (pF3 A S f w1 w2 F) = some z ∧ r = 1 ∧ FRs A x f h' z 4) ∨ (l.find? (pF3 A S f w1 w2 F) = none ∧ r = 0))
/-- behind the guards -/
def g1R (R_X3_goFirst : Nat → Int32 → Int32 → Int32 → Int32 → PH → Option (Int32 × PH)) (N : Nat) (l0 : Nat) (l1 l2 l3 l4 : Int32) (h : PH) : Option (Int32 × PH) :=
        ck (hK h l0 = 3) <|
        if l1 < (hI h l0 5) then
          rq (hR h l0 0) fun a10 =>
          ck (hK h a10 = 12) <|
          ck (inb l1 (hN h a10)) <|
          bd ((hI h a10 (ix l1))) fun v13 =>
          rq (hR h l0 1) fun a14 =>
          ck (hK h a14 = 12) <|
          ck (inb l1 (hN h a14)) <|
          bd (sI h a14 (ix l1) (-1 : Int32)) fun h17 =>
          ck (hK h17 l0 = 3) <|
          rq (hR h17 l0 4) fun a19 =>
          ck (hK h17 a19 = 4) <|
          cl (f_X4_burns N a19 v13 h17) fun r20 h21 =>
          if r20 = 0 then
            f_X3_goFirst_225 R_X3_goFirst N N l0 l1 l2 l3 l4 v13 (0 : Int32) h21
          else
            ck (hK h21 l0 = 3) <|
            rq (hR h21 l0 3) fun a25 =>
            rq (hR h21 l0 4) fun a26 =>
            ck (hK h21 a26 = 4) <|
            rq (hR h21 a26 2) fun a28 =>
            ck (hK h21 a28 = 12) <|
            ck (inb v13 (hN h21 a28)) <|
            rq (hR h21 l0 4) fun a31 =>
            ck (hK h21 a31 = 4) <|
            rq (hR h21 a31 3) fun a33 =>
            ck (hK h21 a33 = 12) <|
            ck (inb v13 (hN h21 a33)) <|
            ck (hK h21 a25 = 6) <|
            cl (f_X6_givesOf N a25 (hI h21 a28 (ix v13)) (hI h21 a33 (ix v13)) (hI h21 l0 8) (0 : Int32) h21) fun r36 h37 =>
            ck (hK h37 l0 = 3) <|
            rq (hR h37 l0 3) fun a40 =>
            rq (hR h37 l0 4) fun a41 =>
            ck (hK h37 a41 = 4) <|
            rq (hR h37 a41 2) fun a43 =>
            ck (hK h37 a43 = 12) <|
            ck (inb v13 (hN h37 a43)) <|
            rq (hR h37 l0 4) fun a46 =>
            ck (hK h37 a46 = 4) <|
            rq (hR h37 a46 3) fun a48 =>
            ck (hK h37 a48 = 12) <|
            ck (inb v13 (hN h37 a48)) <|
            ck (hK h37 a40 = 6) <|
            cl (f_X6_givesOf N a40 (hI h37 a43 (ix v13)) (hI h37 a48 (ix v13)) (hI h37 l0 8) (1 : Int32) h37) fun r51 h52 =>
            ck (hK h52 l0 = 3) <|
            cl (R_X3_goFirst l0 (l1 + (1 : Int32)) (l2 + r36) (l3 + r51) l4 h52) fun r54 h55 =>
            ck (r54 = 0 ∨ r54 = 1) <|
            some (r54, h55)
        else
          rq (hR h l0 3) fun a58 =>
          ck (hK h a58 = 6) <|
          cl (f_X6_signOf N a58 l2 l3 h) fun r59 h60 =>
          ck (hK h60 l0 = 3) <|
          if r59 = (hI h60 l0 6) then
            if (hI h60 l0 7) = (-2 : Int32) then
              some ((1 : Int32), h60)
            else
              cl (f_X3_goSecond 40 N l0 (0 : Int32) (0 : Int32) (0 : Int32) l4 h60) fun r65 h66 =>
              if r65 = 0 then
                some ((0 : Int32), h66)
              else
                some ((1 : Int32), h66)
          else
            some ((0 : Int32), h60)
section SPD
variable {N x J v f F : Nat} {A : AV} {S : AS} {w1 w2 : Int32} {u : Nat → Nat}
theorem pF_s {z : Nat → Nat} (h : pF3 A S f w1 w2 F z = true) : sbs A S z f = w1 := by
  unfold pF3 at h
  rw [Bool.and_eq_true, decide_eq_true_eq] at h
  exact h.1
theorem pF_bn {z : Nat → Nat} (h : pF3 A S f w1 w2 F z = true) : bn z ≤ F ∧ F ≤ bn z + (if w2 = -2 then 0 else rkX (aHs A f) 4) := by
  unfold pF3 at h
  rw [Bool.and_eq_true] at h
  have h2 := h.2
  by_cases e : w2 = -2
  · rw [if_pos e, decide_eq_true_eq] at h2
    rw [if_pos e]
    omega
  · rw [if_neg e, Bool.and_eq_true, decide_eq_true_eq, List.any_eq_true] at h2
    obtain ⟨h2, y, hy, h3⟩ := h2
    unfold q2F at h3
    rw [decide_eq_true_eq] at h3
    have b2 := bn_rk (V := aHs A f) (nf_sub (A := A) (S := S2 A S z) (f := f)) 4 0 u5 y rfl (fun _ _ => rfl) hy
    rw [show bn u5 = 0 from rfl, show rkX (aHs A f) 0 = 0 from rfl] at b2
    rw [if_neg e]
    omega
theorem SW.row {h : PH} {r : Nat} {c : Int32} (hv : x + 37 ≤ v) (p : SW A S x v f w1 w2 h) : SW A S x v f w1 w2 (sI h (x + 31 + 2) r c) := ⟨p.1.row hv (Or.inl rfl), p.2.row (hI_sI_ne (by omega))⟩
theorem FRs.up {h : PH} {j g : Nat} (tj : (aHs A f).testBit j = true) (p : FRs A x f h u j) : FRs A x f (sI h (x + 31 + 2) (rkX (aHs A f) j) (cm g)) (va_up u j g) (j + 1) := fun i hi ti => by
  rw [hI_sI_eq]
  by_cases e : i = j
  · rw [e, va_eq, va_eq]
  · rw [va_ne e, va_ne (fun z => e (rkX_inj ti tj z))]
    exact p i (by omega) ti
theorem FRs.down {h : PH} {j k : Nat} {u' : Nat → Nat} (hj : j ≤ k) (e : ∀ i, i < j → u' i = u i) (p : FRs A x f h u' k) : FRs A x f h u j := fun i hi ti => by
  rw [p i (by omega) ti, e i hi]
theorem LU.up (lu : LU A S u) {j g : Nat} (hb : j < aC A 2) (hg : g < aC A 0) (h5 : aC A 0 ≤ 5) (t : al A S j g = true) : LU A S (va_up u j g) := fun k hk => by
  by_cases e : k = j
  · subst e
    rw [va_eq]
    unfold al at t
    rw [Bool.or_eq_true, Bool.and_eq_true, decide_eq_true_eq, decide_eq_true_eq, decide_eq_true_eq] at t
    rcases t with t | t
    · omega
    · exact Or.inr ⟨hb, t.1, t.2.1, t.2.2⟩
  · rw [va_ne e]; exact lu k hk
theorem g1_gx {h h' : PH} (g : Gx v h h') : Ex (g1P x v) h h' := g.ex.mono (fun z hz => by unfold g1P; omega)
theorem cm_5 : cm 5 = -1 := if_pos rfl
theorem cm_n {n : Nat} (h : n < 5) : cm n = nI n := if_neg (by omega)
theorem G1.r01 {j : Nat} {l : List (Nat → Nat)} {h h' : PH} {r : Int32} (p : G1 A S x v f w1 w2 u j F l h h' r) : r = 0 ∨ r = 1 := by
  rcases p.2.2.2 with ⟨z, -, e, -⟩ | ⟨-, e⟩
  · exact Or.inr e
  · exact Or.inl e
theorem G1.no {j : Nat} {l : List (Nat → Nat)} {h : PH} (e : ∀ z, z ∈ l → ¬ pF3 A S f w1 w2 F z = true) (sw : SW A S x v f w1 w2 h) (fr : FRs A x f h u j) : G1 A S x v f w1 w2 u j F l h h 0 := ⟨Ex.rf, sw, fr, Or.inr ⟨find_no e, rfl⟩⟩
/-- the fuels that a house may light in the first hour, from g on, then none -/
theorem c_225 (hN : 2000 ≤ N) (hv : x + 37 ≤ v) (hT : WS A J S) (lu : LU A S u) {j n : Nat} (hK : F < 2 ^ 29) (hbK : bn u ≤ F) {RR : Nat → Int32 → Int32 → Int32 → Int32 → PH → Option (Int32 × PH)} (hj : j < 4) (tj : (aHs A f).testBit j = true) (hz : tL S j = 0) (hw : ∀ i, j ≤ i → u i = 5)
    (hR : ∀ u' h, LU A S u' → (∀ i, j + 1 ≤ i → u' i = 5) → SW A S x v f w1 w2 h → FRs A x f h u' (j + 1) → ∃ h' r, RR (x + 31) (nI (rkX (aHs A f) (j + 1))) (nI (sD A S f (aWind A (tH S)) u' 0 (j + 1))) (nI (sD A S f (aWind A (tH S)) u' 1 (j + 1))) (dfK F (bn u')) h = some (r, h') ∧ G1 A S x v f w1 w2 u' (j + 1) F (ws (noF A S f) (al A S) n (j + 1) u') h h' r) :
    ∀ (m g : Nat) (h : PH), aC A 0 < m + g → g ≤ aC A 0 → SW A S x v f w1 w2 h → FRs A x f h u j → ∃ h' r, f_X3_goFirst_225 RR N m (x + 31) (nI (rkX (aHs A f) j)) (nI (sD A S f (aWind A (tH S)) u 0 j)) (nI (sD A S f (aWind A (tH S)) u 1 j)) (dfK F (bn u)) (nI j) (nI g) h = some (r, h') ∧ G1 A S x v f w1 w2 u j F ((cl6 (al A S j) (6 - g) g).flatMap (fun g => ws (noF A S f) (al A S) n (j + 1) (va_up u j g))) h h' r
  | 0, g, h, h1, h2, _, _ => by omega
  | m + 1, g, h, h1, h2, sw, fr => by
    obtain ⟨sp, ⟨r3, r4⟩, pv, hS, hC, ⟨q5, q6, q7, q8, q9⟩, hh⟩ := id sw.1
    have hW := pv.2.2.1
    have h5 := hW.1.1
    have hu5 := hw j (Nat.le_refl j)
    have r44 := rkX_le (aHs A f) 4
    have r4j := rkX_lt hj tj
    have jr : inb (nI (rkX (aHs A f) j)) 4 := nI_ix (by omega) (by decide)
    have xr : ix (nI (rkX (aHs A f) j)) = rkX (aHs A f) j := ix_nI (by omega)
    show ∃ h' r, f_X3_goFirst_225_b RR N (f_X3_goFirst_225 RR N m) (x + 31) _ _ _ _ _ _ h = _ ∧ _
    unfold f_X3_goFirst_225_b
    rw [ck_p sp.1, r3, rq_s, ck_p pv.1.1, vR_many pv.1, rq_s, ck_p (vK_many pv.1), vN_many pv.1, ck_p (by decide), pv.2.1.1 0 (by decide), ite_i (nI_leI (by omega) (by omega))]
    by_cases e : aC A 0 ≤ g
    · have eg : g = aC A 0 := by omega
      have sw1 := sw.row (r := rkX (aHs A f) j) (c := cm 5) hv
      have fr1 := fr.up (g := 5) tj
      rw [va_self hu5] at fr1
      have E1 : Ex (g1P x v) h (sI h (x + 31 + 2) (rkX (aHs A f) j) (cm 5)) := Ex.sI (by unfold g1P; omega)
      obtain ⟨h', r, t1, t2⟩ := hR u _ lu (fun i hi => hw i (by omega)) sw1 fr1
      rw [rkX_s tj, sD_yes tj, sD_yes tj, gb_none hT hj hz hu5, gb_none hT hj hz hu5] at t1
      simp only [Nat.add_zero] at t1
      rw [if_pos e, sp.2.1.2.1, rq_s, ck_p sp.2.2.2.1.1, sp.2.2.2.1.2, ck_p jr, xr, ← cm_5, bd_e, ck_p sw1.1.1.1, nI_1, t1, cl_s, ck_p t2.r01]
      refine ⟨h', r, rfl, ?_⟩
      rw [show 6 - g = (5 - g) + 1 by omega, cl6_no (al5 A _ j) (5 - g) g (by omega) (fun f h1 h2 => al_hi (by omega) h2)]
      show G1 A S x v f w1 w2 u j F (ws _ _ n (j + 1) (va_up u j 5) ++ []) h h' r
      rw [List.append_nil, va_self hu5]
      exact ⟨E1.trans t2.1, t2.2.1, t2.2.2.1.down (by omega) (fun _ _ => rfl), t2.2.2.2⟩
    · have ecl : cl6 (al A S j) (6 - g) g = if al A S j g = true then g :: cl6 (al A S j) (6 - (g + 1)) (g + 1) else cl6 (al A S j) (6 - (g + 1)) (g + 1) := by
        rw [show 6 - g = (6 - (g + 1)) + 1 by omega]
        rfl
      have ea : al A S j g = true ↔ (tL S j = 0 ∧ 0 < tT S (5 * j + g)) := by
        unfold al
        rw [Bool.or_eq_true, Bool.and_eq_true, decide_eq_true_eq, decide_eq_true_eq, decide_eq_true_eq]
        omega
      unfold f_X3_goFirst_317
      rw [if_neg e, r4, rq_s, ck_p hS.1, c_canLight hS hC hT hj (by omega), cl_s, ite_i yes0, ecl]
      by_cases t : al A S j g = true
      · have sw0 := sw.row (r := rkX (aHs A f) j) (c := cm g) hv
        have fr0 := fr.up (g := g) tj
        have E0 : Ex (g1P x v) h (sI h (x + 31 + 2) (rkX (aHs A f) j) (cm g)) := Ex.sI (by unfold g1P; omega)
        have un1 : ∀ K, bd (sI h (x + 31 + 2) (rkX (aHs A f) j) (nI g)) K = (K (sI h (x + 31 + 2) (rkX (aHs A f) j) (cm g)) : Option (Int32 × PH)) := fun K => by rw [bd_e, cm_n (by omega)]
        rw [if_neg (fun z => z (ea.mp t)), ck_p sp.1, sp.2.1.2.1, rq_s, ck_p sp.2.2.2.1.1, sp.2.2.2.1.2, ck_p jr, xr, un1, if_pos t, List.flatMap_cons]
        generalize sI h (x + 31 + 2) (rkX (aHs A f) j) (cm g) = h0 at sw0 fr0 E0 un1
        obtain ⟨ha, a1, a2, a3⟩ := c_fresh (N := N) hN sw0.1.2.2.1 (f := g) (w := aWind A (tH S)) (b := 0) (by omega) (aWind_le hW _) (by decide)
        have swa := sw0.gx hv a2 a3
        have fra := fr0.gx hv a2
        obtain ⟨hb, b1, b2, b3⟩ := c_fresh (N := N) hN a3 (f := g) (w := aWind A (tH S)) (b := 1) (by omega) (aWind_le hW _) (by decide)
        have swb := swa.gx hv b2 b3
        have frb := fra.gx hv b2
        have a1 : f_X6_fresh N v (nI g) (nI (aWind A (tH S))) 0 h0 = _ := a1
        have b1 : f_X6_fresh N v (nI g) (nI (aWind A (tH S))) 1 ha = _ := b1
        obtain ⟨hc, r, c1, c2⟩ := hR (va_up u j g) hb (lu.up (aHs_b.mp tj).1 (by omega) h5 t) (fun i hi => by rw [va_ne (by omega)]; exact hw i (by omega)) swb frb
        rw [rkX_s tj, sD_yes tj, sD_yes tj, sD_up, sD_up, gb_up hz h5 (by omega), gb_up hz h5 (by omega), bn_up hj hu5 (by omega), ← dfK_1 hK hbK] at c1
        have gg := ((E0.trans (g1_gx a2)).trans (g1_gx b2)).trans c2.1
        have frc := c2.2.2.1.down (u := u) (show j ≤ j + 1 by omega) (fun i hi => va_ne (by omega))
        rw [ck_p sw0.1.1.1, sw0.1.2.1.1, rq_s, ck_p sw0.1.2.2.1.1.1, sw0.1.2.2.2.2.2.1.2.2.2.1, a1, cl_s, ck_p swa.1.1.1, swa.1.2.1.1, rq_s, ck_p a3.1.1, swa.1.2.2.2.2.2.1.2.2.2.1, b1, cl_s, ck_p swb.1.1.1, nI_1, nI_1, nI_add, nI_add, c1, cl_s]
        rcases c2.2.2.2 with ⟨z, z1, z2, z3⟩ | ⟨z1, z2⟩
        · rw [z2, if_neg one0]
          exact ⟨hc, 1, rfl, gg, c2.2.1, frc, Or.inl ⟨z, by rw [List.find?_append, z1]; rfl, rfl, z3⟩⟩
        · obtain ⟨h', r', d1, d2⟩ := c_225 hN hv hT lu hK hbK hj tj hz hw hR m (g + 1) hc (by omega) (by omega) c2.2.1 frc
          rw [z2, if_pos rfl, bd_e]
          refine ⟨h', r', d1, gg.trans d2.1, d2.2.1, d2.2.2.1, ?_⟩
          rw [List.find?_append, z1, Option.none_or]
          exact d2.2.2.2
      · rw [if_pos (fun z => t (ea.mpr z)), if_neg t, bd_e, nI_1]
        exact c_225 hN hv hT lu hK hbK hj tj hz hw hR m (g + 1) h (by omega) (by omega) sw fr
/-- the guards: nothing comes of it, or it goes on -/
theorem c_pre1 (hv : x + 37 ≤ v) (hT : WS A J S) {j n : Nat} (hK : F < 2 ^ 29) {RR : Nat → Int32 → Int32 → Int32 → Int32 → PH → Option (Int32 × PH)} (hn : n + j = 4) (hw1 : w1 = -1 ∨ ∃ k, k < aC A 3 ∧ w1 = nI k) (hw : ∀ i, j ≤ i → u i = 5) {h : PH} (sw : SW A S x v f w1 w2 h) : (f_X3_goFirst_b RR N (x + 31) (nI (rkX (aHs A f) j)) (nI (sD A S f (aWind A (tH S)) u 0 j)) (nI (sD A S f (aWind A (tH S)) u 1 j)) (dfK F (bn u)) h = some (0, h) ∧ ∀ z, z ∈ ws (noF A S f) (al A S) n j u → ¬ pF3 A S f w1 w2 F z = true) ∨ (bn u ≤ F ∧ F + rkX (aHs A f) j ≤ bn u + rkX (aHs A f) 4 + (if w2 = -2 then 0 else rkX (aHs A f) 4) ∧ f_X3_goFirst_b RR N (x + 31) (nI (rkX (aHs A f) j)) (nI (sD A S f (aWind A (tH S)) u 0 j)) (nI (sD A S f (aWind A (tH S)) u 1 j)) (dfK F (bn u)) h = g1R RR N (x + 31) (nI (rkX (aHs A f) j)) (nI (sD A S f (aWind A (tH S)) u 0 j)) (nI (sD A S f (aWind A (tH S)) u 1 j)) (dfK F (bn u)) h) := by
  obtain ⟨sp, ⟨r3, r4⟩, pv, hS, hC, ⟨q5, q6, q7, q8, q9⟩, hh⟩ := id sw.1
  have hW := pv.2.2.1
  have bw := bn_le u
  have b0 := sD_bd (A := A) (S := S) hW (f := f) (w := aWind A (tH S)) (b := 0) (u := u) j
  have b1 := sD_bd (A := A) (S := S) hW (f := f) (w := aWind A (tH S)) (b := 1) (u := u) j
  have t0 := tlS_bd (V := aHs A f) (mNw_le (S := S) hW (aWind A (tH S)) 0) n j
  have t1 := tlS_bd (V := aHs A f) (mNw_le (S := S) hW (aWind A (tH S)) 1) n j
  have r44 := rkX_le (aHs A f) 4
  have rjl : rkX (aHs A f) j ≤ rkX (aHs A f) 4 := rk_le (by omega)
  obtain ⟨s0, -⟩ := sw.2 j (Nat.zero_le j) (by omega) 0 (by decide)
  obtain ⟨s1, -⟩ := sw.2 j (Nat.zero_le j) (by omega) 1 (by decide)
  rw [show 4 - j = n by omega] at s0 s1
  obtain ⟨sl, esl⟩ : ∃ sl, sl = (if w2 = -2 then 0 else rkX (aHs A f) 4) := ⟨_, rfl⟩
  have sl4 : sl ≤ 4 := by rw [esl]; split <;> omega
  have e23 : f_X3_goFirst_b RR N (x + 31) (nI (rkX (aHs A f) j)) (nI (sD A S f (aWind A (tH S)) u 0 j)) (nI (sD A S f (aWind A (tH S)) u 1 j)) (dfK F (bn u)) h = f_X3_goFirst_23 RR N (nI sl) (nI (rkX (aHs A f) 4 - rkX (aHs A f) j)) (x + 31) (nI (rkX (aHs A f) j)) (nI (sD A S f (aWind A (tH S)) u 0 j)) (nI (sD A S f (aWind A (tH S)) u 1 j)) (dfK F (bn u)) h := by
    unfold f_X3_goFirst_b
    rw [ck_p sp.1, q7, q5, pk_sub rjl, esl]
    by_cases e : w2 = -2
    · rw [if_pos e, if_pos e]
      rfl
    · rw [if_neg e, if_neg e]
  rw [e23, ← esl]
  unfold f_X3_goFirst_23
  rw [nI_add, bd_e, ite_i (dfK_neg (by omega) (by omega))]
  by_cases c1 : F < bn u
  · rw [if_pos c1]
    refine Or.inl ⟨rfl, fun z hz hq => ?_⟩
    have := bn_mono (ws_Le hw hz)
    have := (pF_bn hq).1
    omega
  rw [if_neg c1, ite_i (lt_dfK (by omega) (by omega) (by omega))]
  by_cases c2 : rkX (aHs A f) 4 - rkX (aHs A f) j + sl + bn u < F
  · rw [if_pos c2]
    refine Or.inl ⟨rfl, fun z hz hq => ?_⟩
    have := bn_rk (V := aHs A f) (nf_sub (A := A) (S := S) (f := f)) n j u z hn hw hz
    have h2 := (pF_bn hq).2
    rw [← esl] at h2
    omega
  have ei : nI (rkX (aHs A f) j) * (4 : Int32) + (0 : Int32) = nI (4 * rkX (aHs A f) j + 0) := by
    rw [show (4 : Int32) = nI 4 from rfl, show (0 : Int32) = nI 0 from rfl, pk_mul, nI_add, Nat.mul_comm]
  have as := c_astray (N := N) (w := w1) sp r3 pv (ai := 4 * rkX (aHs A f) j + 0) (by omega) s0 s1 (d := sD A S f (aWind A (tH S)) u 0 j) (s := sD A S f (aWind A (tH S)) u 1 j) (by omega) (by omega) hw1
  rw [if_neg c2, ck_p sp.1, q6, ei, as, cl_s, ite_i yb0]
  by_cases c3 : asT A w1 (sD A S f (aWind A (tH S)) u 0 j) (sD A S f (aWind A (tH S)) u 1 j) (sD A S f (aWind A (tH S)) u 0 j + tlS (aHs A f) (mNw A S (aWind A (tH S)) 0) n j) (sD A S f (aWind A (tH S)) u 1 j + tlS (aHs A f) (mNw A S (aWind A (tH S)) 1) n j) = false
  · rw [if_pos c3]
    exact Or.inr ⟨by omega, by omega, rfl⟩
  · rw [if_neg c3]
    refine Or.inl ⟨rfl, fun z hz hq => ?_⟩
    exact as_ws (A := A) (S := S) hW (X := noF A S f) (f := f) (n := n) (j := j) (u := u) (w := w1) (g0 := mNw A S (aWind A (tH S)) 0) (g1 := mNw A S (aWind A (tH S)) 1) hn rfl rfl hw (fun z' i hi hz' => ⟨gb_mNw hT hi hz', gb_mNw hT hi hz'⟩) hw1 (sQ_t c3) z hz (pF_s hq)
theorem c_go1 (hN : 2000 ≤ N) (hv : x + 37 ≤ v) (hT : WS A J S) (hK : F < 2 ^ 29) (hw1 : w1 = -1 ∨ ∃ k, k < aC A 3 ∧ w1 = nI k) (hw2 : w2 = -2 ∨ (w2 = -1 ∨ ∃ k, k < aC A 3 ∧ w2 = nI k)) : ∀ (m j d : Nat) (u : Nat → Nat) (h : PH), m + j = 4 → m < d → LU A S u → (∀ i, j ≤ i → u i = 5) → SW A S x v f w1 w2 h → FRs A x f h u j → ∃ h' r, f_X3_goFirst d N (x + 31) (nI (rkX (aHs A f) j)) (nI (sD A S f (aWind A (tH S)) u 0 j)) (nI (sD A S f (aWind A (tH S)) u 1 j)) (dfK F (bn u)) h = some (r, h') ∧ G1 A S x v f w1 w2 u j F (ws (noF A S f) (al A S) m j u) h h' r
  | 0, j, d, u, h, hm, hd, lu, hw, sw, fr => by
    have ej : j = 4 := by omega
    subst ej
    obtain ⟨d', rfl⟩ : ∃ d', d = d' + 1 := ⟨d - 1, by omega⟩
    obtain ⟨sp, ⟨r3, r4⟩, pv, hS, hC, ⟨q5, q6, q7, q8, q9⟩, hh⟩ := id sw.1
    have hW := pv.2.2.1
    have b0 := sD_bd (A := A) (S := S) hW (f := f) (w := aWind A (tH S)) (b := 0) (u := u) 4
    have b1 := sD_bd (A := A) (S := S) hW (f := f) (w := aWind A (tH S)) (b := 1) (u := u) 4
    have x0 := sD_4 (A := A) (S := S) hW (f := f) (b := 0) (u := u)
    have x1 := sD_4 (A := A) (S := S) hW (f := f) (b := 1) (u := u)
    have r44 := rkX_le (aHs A f) 4
    show ∃ h' r, f_X3_goFirst_b (f_X3_goFirst d' N) N (x + 31) _ _ _ _ h = _ ∧ _
    rcases c_pre1 (N := N) (RR := f_X3_goFirst d' N) hv hT hK (n := 0) (j := 4) (u := u) rfl hw1 hw sw with ⟨p1, p2⟩ | ⟨p1, p2, p3⟩
    · rw [p1]
      exact ⟨h, 0, rfl, G1.no p2 sw fr⟩
    have yes1 : ∀ h', Ex (g1P x v) h h' → SW A S x v f w1 w2 h' → FRs A x f h' u 4 → pF3 A S f w1 w2 F u = true → G1 A S x v f w1 w2 u 4 F (ws (noF A S f) (al A S) 0 4 u) h h' 1 := fun h' e1 e2 e3 e4 => ⟨e1, e2, e3, Or.inl ⟨u, by
      show [u].find? _ = some u
      rw [List.find?_cons_of_pos e4], rfl, e3⟩⟩
    have no1 : ∀ h', Ex (g1P x v) h h' → SW A S x v f w1 w2 h' → FRs A x f h' u 4 → ¬ pF3 A S f w1 w2 F u = true → G1 A S x v f w1 w2 u 4 F (ws (noF A S f) (al A S) 0 4 u) h h' 0 := fun h' e1 e2 e3 e4 => ⟨e1, e2, e3, Or.inr ⟨by
      show [u].find? _ = none
      rw [List.find?_cons_of_neg e4]
      rfl, rfl⟩⟩
    rw [p3]
    unfold g1R
    rw [ck_p sp.1, q5, if_neg (nI_nlt (Nat.le_refl _) (by omega)), r3, rq_s, ck_p pv.1.1, c_signOf (by omega) pv.1 pv.2.1 hW (by omega) (by omega), cl_s, ck_p sp.1, q6, x0, x1]
    show ∃ h' r, (if sbs A S u f = w1 then _ else _) = some (r, h') ∧ _
    by_cases g : sbs A S u f = w1
    rotate_left
    · rw [if_neg g]
      exact ⟨h, 0, rfl, no1 h Ex.rf sw fr (fun z => g (pF_s z))⟩
    rw [if_pos g, q7]
    by_cases e2 : w2 = -2
    · rw [if_pos e2] at p2
      rw [if_pos e2]
      refine ⟨h, 1, rfl, yes1 h Ex.rf sw fr ?_⟩
      unfold pF3
      rw [decide_eq_true g, if_pos e2, decide_eq_true (show bn u = F by omega)]
      rfl
    · obtain ⟨h', k1, k2, k3⟩ := c_go2 (N := N) hN hv hT lu (K := F - bn u) (by omega) (hw2.resolve_left e2) 4 0 40 u5 h rfl (by decide) (fun _ _ => rfl) sw fr
      rw [show bn u5 = 0 from rfl, dfK_n (Nat.zero_le _), Nat.sub_zero, ← dfK_n p1] at k1
      have k1 : f_X3_goSecond 40 N (x + 31) 0 0 0 (dfK F (bn u)) h = _ := k1
      have e3 : pF3 A S f w1 w2 F u = (ws (noF A (S2 A S u) f) (al A (S2 A S u)) 4 0 u5).any (q2F A (S2 A S u) f w2 (F - bn u)) := by
        unfold pF3
        rw [decide_eq_true g, if_neg e2, decide_eq_true p1]
        rfl
      rw [← e3] at k1
      rw [if_neg e2, k1, cl_s, ite_i yb0]
      by_cases q : pF3 A S f w1 w2 F u = false
      · rw [if_pos q]
        exact ⟨h', 0, rfl, no1 h' (g1_gx k2) (sw.gx hv k2 k3) (fr.gx hv k2) (by rw [q]; decide)⟩
      · rw [if_neg q]
        exact ⟨h', 1, rfl, yes1 h' (g1_gx k2) (sw.gx hv k2 k3) (fr.gx hv k2) (sQ_t q)⟩
  | m + 1, j, d, u, h, hm, hd, lu, hw, sw, fr => by
    by_cases tj : (aHs A f).testBit j = true
    · have hj : j < 4 := by omega
      obtain ⟨d', rfl⟩ : ∃ d', d = d' + 1 := ⟨d - 1, by omega⟩
      obtain ⟨sp, ⟨r3, r4⟩, pv, hS, hC, ⟨q5, q6, q7, q8, q9⟩, hh⟩ := id sw.1
      have hW := pv.2.2.1
      have h5 := hW.1.1
      have r44 := rkX_le (aHs A f) 4
      have r4j := rkX_lt hj tj
      have hu5 := hw j (Nat.le_refl j)
      have hR : ∀ u' h, LU A S u' → (∀ i, j + 1 ≤ i → u' i = 5) → SW A S x v f w1 w2 h → FRs A x f h u' (j + 1) → ∃ h' r, f_X3_goFirst d' N (x + 31) (nI (rkX (aHs A f) (j + 1))) (nI (sD A S f (aWind A (tH S)) u' 0 (j + 1))) (nI (sD A S f (aWind A (tH S)) u' 1 (j + 1))) (dfK F (bn u')) h = some (r, h') ∧ G1 A S x v f w1 w2 u' (j + 1) F (ws (noF A S f) (al A S) m (j + 1) u') h h' r := fun u' h k0 k1 k2 k3 => c_go1 hN hv hT hK hw1 hw2 m (j + 1) d' u' h (by omega) (by omega) k0 k1 k2 k3
      show ∃ h' r, f_X3_goFirst_b (f_X3_goFirst d' N) N (x + 31) _ _ _ _ h = _ ∧ _
      rcases c_pre1 (N := N) (RR := f_X3_goFirst d' N) hv hT hK (n := m + 1) (j := j) (u := u) hm hw1 hw sw with ⟨p1, p2⟩ | ⟨p1, p2, p3⟩
      · rw [p1]
        exact ⟨h, 0, rfl, G1.no p2 sw fr⟩
      have jr : inb (nI (rkX (aHs A f) j)) 4 := nI_ix (by omega) (by decide)
      have xr : ix (nI (rkX (aHs A f) j)) = rkX (aHs A f) j := ix_nI (by omega)
      have j4 : inb (nI j) 4 := nI_ix hj (by decide)
      have xj : ix (nI j) = j := ix_nI (by omega)
      have tT := hT.2.1 j hj
      have sw0 := sw.row (r := rkX (aHs A f) j) (c := cm 5) hv
      have fr0 := fr.up (g := 5) tj
      rw [va_self hu5] at fr0
      have E0 : Ex (g1P x v) h (sI h (x + 31 + 2) (rkX (aHs A f) j) (cm 5)) := Ex.sI (by unfold g1P; omega)
      rw [p3]
      unfold g1R
      rw [ck_p sp.1, q5, if_pos (nI_lt r4j (by omega)), sp.2.1.1, rq_s, ck_p sp.2.2.1.1, sp.2.2.1.2, ck_p jr, xr, hh j hj tj, bd_e, sp.2.1.2.1, rq_s, ck_p sp.2.2.2.1.1, sp.2.2.2.1.2, ck_p jr, ← cm_5, bd_e]
      generalize sI h (x + 31 + 2) (rkX (aHs A f) j) (cm 5) = h0 at sw0 fr0 E0 ⊢
      obtain ⟨sp0, ⟨r30, r40⟩, pv0, hS0, hC0, ⟨-, -, -, q80, -⟩, -⟩ := id sw0.1
      rw [ck_p sp0.1, r40, rq_s, ck_p hS0.1, c_burns hS0 hC0 hT hj, cl_s, ite_i yes0]
      by_cases z : 0 < tL S j
      · have nb : ¬ (noF A S f).testBit j = true := fun q => by have := (noF_b.mp q).2.2; omega
        obtain ⟨ha, a1, a2, a3⟩ := c_givesOf (N := N) hN pv0 (F := tF S j) (l := tL S j) (w := aWind A (tH S)) (b := 0) (by omega) tT.1 (aWind_le hW _) (by decide)
        have swa := sw0.gx hv a2 a3
        have fra := fr0.gx hv a2
        obtain ⟨hb, b1', b2, b3⟩ := c_givesOf (N := N) hN a3 (F := tF S j) (l := tL S j) (w := aWind A (tH S)) (b := 1) (by omega) tT.1 (aWind_le hW _) (by decide)
        have swb := swa.gx hv b2 b3
        have frb := fra.gx hv b2
        have a1 : f_X6_givesOf N v (nI (tF S j) + (-1)) (nI (tL S j)) (nI (aWind A (tH S))) 0 h0 = _ := a1
        have b1' : f_X6_givesOf N v (nI (tF S j) + (-1)) (nI (tL S j)) (nI (aWind A (tH S))) 1 ha = _ := b1'
        obtain ⟨h', r, k1, k2⟩ := hR u hb lu (fun i hi => hw i (by omega)) swb frb
        rw [rkX_s tj, sD_yes tj, sD_yes tj, gb_fire z, gb_fire z] at k1
        obtain ⟨spa, ⟨r3a, r4a⟩, pva, hSa, hCa, ⟨-, -, -, q8a, -⟩, -⟩ := id swa.1
        rw [if_neg (fun q => q z), ck_p sp0.1, r30, rq_s, r40, rq_s, ck_p hS0.1, sR_fuel hS0, rq_s, ck_p (sK_fuel hS0), sN_fuel hS0, ck_p j4, rq_s, ck_p hS0.1, sR_left hS0, rq_s, ck_p (sK_left hS0), sN_left hS0, ck_p j4, ck_p pv0.1.1, xj, hC0.2.2.1 j hj, hC0.2.2.2.1 j hj, q80, a1, cl_s, ck_p spa.1, r3a, rq_s, r4a, rq_s, ck_p hSa.1, sR_fuel hSa, rq_s, ck_p (sK_fuel hSa), sN_fuel hSa, ck_p j4, rq_s, ck_p hSa.1, sR_left hSa, rq_s, ck_p (sK_left hSa), sN_left hSa, ck_p j4, ck_p pva.1.1, hCa.2.2.1 j hj, hCa.2.2.2.1 j hj, q8a, b1', cl_s, ck_p swb.1.1.1, nI_1, nI_add, nI_add, k1, cl_s, ck_p k2.r01, ws_nob nb]
        exact ⟨h', r, rfl, ((E0.trans (g1_gx a2)).trans (g1_gx b2)).trans k2.1, k2.2.1, k2.2.2.1.down (by omega) (fun _ _ => rfl), k2.2.2.2⟩
      · have nb : (noF A S f).testBit j = true := noF_b.mpr ⟨(aHs_b.mp tj).1, (aHs_b.mp tj).2, by omega⟩
        obtain ⟨h', r, k1, k2⟩ := c_225 (N := N) hN hv hT lu hK p1 (RR := f_X3_goFirst d' N) hj tj (by omega) hw hR N 0 h0 (by omega) (by omega) sw0 (fr0.down (by omega) (fun _ _ => rfl))
        rw [if_pos z, ws_bit nb]
        exact ⟨h', r, k1, E0.trans k2.1, k2.2⟩
    · have nb : ¬ (noF A S f).testBit j = true := fun z => tj (nf_sub j z)
      obtain ⟨h', r, k1, k2⟩ := c_go1 hN hv hT hK hw1 hw2 m (j + 1) d u h (by omega) (by omega) lu (fun i hi => hw i (by omega)) sw (fun i hi ti => fr i (by
        by_cases q : i = j
        · rw [q] at ti; exact absurd ti tj
        · omega) ti)
      rw [rkX_n tj, sD_no tj, sD_no tj] at k1
      rw [ws_nob nb]
      exact ⟨h', r, k1, k2.1, k2.2.1, k2.2.2.1.down (by omega) (fun _ _ => rfl), k2.2.2.2⟩
end SPD
