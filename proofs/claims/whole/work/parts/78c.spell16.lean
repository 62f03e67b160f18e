/-! The duty of spell, the class's side: the first hour's search. -/
/-- what the search keeps while it goes -/
def SVq (A : AV) (S : AS) (x v f : Nat) (w1 w2 : Int32) (st : Nat × (Nat → Nat)) (h : PH) : Prop := SB A S x v h ∧ HS (aHs A f) x h ∧ (hI h (x + 31) 11 = nI (rkX (aHs A f) 4) ∧ hI h (x + 31) 12 = w1 ∧ hI h (x + 31) 13 = w2 ∧ hI h (x + 31) 14 = nI st.1) ∧ (st.1 ≠ 9 → ∀ p, p < 4 → hI h (x + 31 + 3) p = cm (cP (aHs A f) st.2 p)) ∧ (w2 = -2 ∨ TBq A S f w2 x h)
def g1q (x v z : Nat) : Prop := z = x + 31 ∨ z = x + 33 ∨ z = x + 34 ∨ z = v + 13 ∨ z = v + 16 ∨ z = v + 17
def G1q (A : AV) (S : AS) (x v f : Nat) (w1 w2 : Int32) (u : Nat → Nat) (st : Nat × (Nat → Nat)) (l : List (Nat → Nat)) (h h' : PH) : Prop := Ex (g1q x v) h h' ∧ SVq A S x v f w1 w2 (spL A S f w1 w2 l st) h' ∧ RWq (aHs A f) x u h'
section SPF1
variable {N x v J f : Nat} {A : AV} {S : AS} {w1 w2 : Int32} {u : Nat → Nat}
theorem TBq.ex {P : Nat → Prop} {h h' : PH} {w : Int32} (e : Ex P h h') (hP : ∀ z, P z → z < x + 35 ∨ x + 41 ≤ z) (p : TBq A S f w x h) : TBq A S f w x h' := by
  obtain ⟨sh, R, p1, p2, p3⟩ := p
  have e9 : hI h' (x + 31 + 9) = hI h (x + 31 + 9) := e.2.2.2 _ (fun z => by have := hP _ z; omega)
  refine ⟨sh, R, p1.ex e (fun z hz => by have := hP z hz; omega), ?_, p3⟩
  unfold RCq at p2 ⊢
  rw [e9]
  exact p2
theorem RWq.ex {P : Nat → Prop} {V : Nat} {h h' : PH} (e : Ex P h h') (hP : ¬ P (x + 31 + 2)) (p : RWq V x u h) : RWq V x u h' := fun q hq => by
  rw [e.2.2.2 _ hP]
  exact p q hq
theorem SVq.gx {h h' : PH} {st : Nat × (Nat → Nat)} (hv : x + 43 ≤ v) (g : Gx v h h') (hV : VA h' v A) (p : SVq A S x v f w1 w2 st h) : SVq A S x v f w1 w2 st h' := by
  obtain ⟨p1, p2, p3, p4, p5⟩ := p
  have e := g.ex
  refine ⟨p1.gx hv g hV, p2.ex e (by omega), ?_, ?_, p5.imp id (fun t => t.ex e (fun z hz => by omega))⟩
  · rw [g.2.2.2 (x + 31) (by omega) (by omega) (by omega)]; exact p3
  · rw [g.2.2.2 (x + 31 + 3) (by omega) (by omega) (by omega)]; exact p4
theorem RWq.gx {V : Nat} {h h' : PH} (hv : x + 43 ≤ v) (g : Gx v h h') (p : RWq V x u h) : RWq V x u h' := p.ex g.ex (by omega)
theorem SVq.row {h : PH} {st : Nat × (Nat → Nat)} {r : Nat} {c : Int32} (hv : x + 43 ≤ v) (p : SVq A S x v f w1 w2 st h) : SVq A S x v f w1 w2 st (sI h (x + 31 + 2) r c) := by
  obtain ⟨p1, p2, p3, p4, p5⟩ := p
  have E : Ex (fun z => z = x + 31 + 2) h (sI h (x + 31 + 2) r c) := Ex.sI rfl
  refine ⟨p1.own hv E (fun z hz => by omega), p2.ex E (by omega), ?_, ?_, p5.imp id (fun t => t.ex E (fun z hz => by omega))⟩
  · rw [E.2.2.2 (x + 31) (by omega)]; exact p3
  · rw [E.2.2.2 (x + 31 + 3) (by omega)]; exact p4
theorem RWq.up {V : Nat} {h : PH} {j g : Nat} (hV : V < 16) (hj : j < 4) (tj : V.testBit j = true) (p : RWq V x u h) : RWq V x (va_up u j g) (sI h (x + 31 + 2) (rkX V j) (cm g)) := fun q hq => by
  rw [hI_sI_eq, cP_up hV hj tj hq]
  by_cases e : q = rkX V j
  · rw [if_pos e, e, va_eq]
  · rw [if_neg e, va_ne e]
    exact p q hq
theorem c_take {h : PH} {st : Nat × (Nat → Nat)} {c : Nat} (hv : x + 43 ≤ v) (hc : c ≤ 9) (hst : st.1 ≤ 9) (p : SVq A S x v f w1 w2 st h) (r : RWq (aHs A f) x u h) : ∃ h', f_X3_take N (x + 31) (nI c) h = some ((), h') ∧ Ex (fun z => z = x + 31 ∨ z = x + 34) h h' ∧ SVq A S x v f w1 w2 (if c < st.1 then (c, u) else st) h' ∧ RWq (aHs A f) x u h' := by
  obtain ⟨p1, p2, ⟨q11, q12, q13, q14⟩, p4, p5⟩ := id p
  have sp := p1.1
  unfold f_X3_take
  rw [ck_p sp.1, q14, ite_i (nI_leI (by omega) (by omega))]
  by_cases d : st.1 ≤ c
  · rw [if_pos d, if_neg (by omega)]
    exact ⟨h, rfl, Ex.rf, p, r⟩
  rw [if_neg d, if_pos (by omega), bd_e]
  have E1 : Ex (fun z => z = x + 31 ∨ z = x + 34) h (sI h (x + 31) 14 (nI c)) := Ex.sI (Or.inl rfl)
  have k1 : SP (sI h (x + 31) 14 (nI c)) (x + 31) := sp.sm Sm.sI
  have f1 : hI (sI h (x + 31) 14 (nI c)) (x + 31) = va_up (hI h (x + 31)) 14 (nI c) := hI_sI_eq
  have f2 : hI (sI h (x + 31) 14 (nI c)) (x + 31 + 2) = hI h (x + 31 + 2) := hI_sI_ne (by omega)
  rw [ck_p k1.1, pR_row k1, rq_s, pR_best k1, rq_s, rq_s, ck_p (pK_row k1), ck_p (pK_row k1), ck_p (pK_best k1), pN_row k1, pN_best k1, ck_p (by decide), ck_p (by decide), ck_p (by decide), bd_e]
  generalize sI h (x + 31) 14 (nI c) = ha at E1 k1 f1 f2 ⊢
  have E2 : Ex (fun z => z = x + 31 ∨ z = x + 34) ha (sRow ha (x + 31 + 3) (va_cpy (hI ha (x + 31 + 2)) (hI ha (x + 31 + 3)) (ix (0 : Int32)) (ix (0 : Int32)) (ix (nI 4)))) := Ex.sRow (Or.inr rfl)
  have g3 : hI (sRow ha (x + 31 + 3) (va_cpy (hI ha (x + 31 + 2)) (hI ha (x + 31 + 3)) (ix (0 : Int32)) (ix (0 : Int32)) (ix (nI 4)))) (x + 31 + 3) = va_cpy (hI ha (x + 31 + 2)) (hI ha (x + 31 + 3)) (ix (0 : Int32)) (ix (0 : Int32)) (ix (nI 4)) := hI_row
  have g1 : hI (sRow ha (x + 31 + 3) (va_cpy (hI ha (x + 31 + 2)) (hI ha (x + 31 + 3)) (ix (0 : Int32)) (ix (0 : Int32)) (ix (nI 4)))) (x + 31) = va_up (hI h (x + 31)) 14 (nI c) := (hI_row_ne (by omega)).trans f1
  have cp : ∀ k, k < 4 → va_cpy (hI ha (x + 31 + 2)) (hI ha (x + 31 + 3)) (ix (0 : Int32)) (ix (0 : Int32)) (ix (nI 4)) k = hI h (x + 31 + 2) k := fun k hk => by
    rw [cpy_at (n := 4) hk (by decide), f2]
  generalize sRow ha (x + 31 + 3) (va_cpy (hI ha (x + 31 + 2)) (hI ha (x + 31 + 3)) (ix (0 : Int32)) (ix (0 : Int32)) (ix (nI 4))) = g at E2 g1 g3
  have EE := E1.trans E2
  refine ⟨g, rfl, EE, ⟨p1.own hv EE (fun z hz => by omega), p2.ex EE (by omega), ?_, fun _ k hk => ?_, p5.imp id (fun t => t.ex EE (fun z hz => by omega))⟩, r.ex EE (by omega)⟩
  · rw [g1, va_ne (by decide), va_ne (by decide), va_ne (by decide), va_eq]
    exact ⟨q11, q12, q13, rfl⟩
  · rw [g3, cp k hk]
    exact r k hk
theorem c_leaf (hB : 2000 ≤ N) (hv : x + 43 ≤ v) (hT : WS A J S) (lu : LU A S u) {st : Nat × (Nat → Nat)} {h : PH} (hst : st.1 ≤ 9) (hb : bn u < st.1) (sv : SVq A S x v f w1 w2 st h) (fr : RWq (aHs A f) x u h) {D0 D1 : Nat} (e0 : D0 = sD A S f (aWind A (tH S)) u 0 4) (e1 : D1 = sD A S f (aWind A (tH S)) u 1 4) {RR : Nat → Int32 → Int32 → Int32 → Int32 → PH → Option (Unit × PH)} : ∃ h', (rq (hR h (x + 31) 9) fun a53 => ck (hK h a53 = 6) <| cl (f_X6_signOf N a53 (nI D0) (nI D1) h) fun r54 h55 => ck (hK h55 (x + 31) = 3) <| if r54 = (hI h55 (x + 31) 12) then if (hI h55 (x + 31) 13) = (-2 : Int32) then f_X3_goFirst_61 RR N (nI (bn u)) (x + 31) h55 else cl (f_X3_fewestThen 40 N (x + 31) (0 : Int32) (0 : Int32) (nI (bn u)) (hI h55 (x + 31) 14) h55) fun r60 h61 => f_X3_goFirst_61 RR N r60 (x + 31) h61 else some ((), h55)) = some ((), h') ∧ Ex (g1q x v) h h' ∧ SVq A S x v f w1 w2 (spS A S f w1 w2 st u) h' ∧ RWq (aHs A f) x u h' := by
  obtain ⟨sb, hs, ⟨q11, q12, q13, q14⟩, p4, p5⟩ := id sv
  obtain ⟨sp, ⟨r9, r10⟩, pv, hS, hC⟩ := id sb
  have hW := pv.2.2.1
  have bu := bn_le u
  have b0 := sD_bd (A := A) (S := S) hW (f := f) (w := aWind A (tH S)) (b := 0) (u := u) 4
  have b1 := sD_bd (A := A) (S := S) hW (f := f) (w := aWind A (tH S)) (b := 1) (u := u) 4
  have x0 := sD_4 (A := A) (S := S) hW (f := f) (b := 0) (u := u)
  have x1 := sD_4 (A := A) (S := S) hW (f := f) (b := 1) (u := u)
  rw [← e0] at b0 x0
  rw [← e1] at b1 x1
  rw [r9, rq_s, ck_p pv.1.1, c_signOf (by omega) pv.1 pv.2.1 hW (by omega) (by omega), cl_s, ck_p sp.1, q12, q13, q14, x0, x1]
  show ∃ h', (if sbs A S u f = w1 then _ else _) = _ ∧ _
  by_cases g : sbs A S u f = w1
  rotate_left
  · rw [if_neg g]
    refine ⟨h, rfl, Ex.rf, ?_, fr⟩
    unfold spS
    rw [if_neg (fun z => g z.2.1)]
    exact sv
  rw [if_pos g]
  have fin : ∀ r : Nat, r ≤ 9 → (r = if sp2 A S f w2 u ≠ 9 ∧ bn u + sp2 A S f w2 u < st.1 then bn u + sp2 A S f w2 u else st.1) → ∃ h', f_X3_goFirst_61 RR N (nI r) (x + 31) h = some ((), h') ∧ Ex (g1q x v) h h' ∧ SVq A S x v f w1 w2 (spS A S f w1 w2 st u) h' ∧ RWq (aHs A f) x u h' := fun r r9' er => by
    obtain ⟨h', t1, t2, t3, t4⟩ := c_take (N := N) (c := r) hv r9' hst sv fr
    unfold f_X3_goFirst_61
    rw [ck_p sp.1, t1, cl_s]
    refine ⟨h', rfl, t2.mono (fun z hz => by unfold g1q; omega), ?_, t4⟩
    have es : spS A S f w1 w2 st u = if r < st.1 then (r, u) else st := by
      unfold spS
      by_cases c : sp2 A S f w2 u ≠ 9 ∧ bn u + sp2 A S f w2 u < st.1
      · rw [if_pos c] at er
        rw [if_pos ⟨hb, g, c.1, c.2⟩, if_pos (by omega), er]
      · rw [if_neg c] at er
        rw [if_neg (fun z => c ⟨z.2.2.1, z.2.2.2⟩), if_neg (by omega)]
    rw [es]
    exact t3
  by_cases e2 : w2 = -2
  · rw [if_pos e2]
    have s0 := sp2_0 (A := A) (S := S) (f := f) (u := u) e2
    exact fin (bn u) (by omega) (by rw [s0, if_pos ⟨by omega, by omega⟩, Nat.add_zero])
  · obtain ⟨sh, R, pa, rc, ht⟩ := p5.resolve_left e2
    obtain ⟨r, t1, t2⟩ := c_few (N := N) (by omega) hv hT lu sb fr pa rc ht 3 0 40 (bn u) st.1 (fun _ => 0) rfl (by decide) (fun p hp => absurd hp (Nat.not_lt_zero p)) hb hst
    have t1 : f_X3_fewestThen 40 N (x + 31) 0 0 (nI (bn u)) (nI st.1) h = _ := t1
    rw [if_neg e2, t1, cl_s]
    exact fin r (Nat.le_trans t2.2.1 hst) (Lst_sp2 hW hT lu e2 t2)
theorem LU.up (lu : LU A S u) {j g : Nat} (hb : j < aC A 2) (hg : g < aC A 0) (h5 : aC A 0 ≤ 5) (t : al A S j g = true) : LU A S (va_up u j g) := fun k hk => by
  by_cases e : k = j
  · subst e
    rw [va_eq]
    exact Or.inr ⟨hb, hg, (al_c t (by omega)).2⟩
  · rw [va_ne e]; exact lu k hk
theorem g1q_gx {h h' : PH} (g : Gx v h h') : Ex (g1q x v) h h' := g.ex.mono (fun z hz => by unfold g1q; omega)
/-- the fuels that a house may light in the first hour, from g on, then none -/
theorem c_186 (hB : 2000 ≤ N) (hv : x + 43 ≤ v) (hT : WS A J S) (lu : LU A S u) {j n : Nat} {RR : Nat → Int32 → Int32 → Int32 → Int32 → PH → Option (Unit × PH)} (hj : j < 4) (tj : (aHs A f).testBit j = true) (hz : tL S j = 0) (hw : ∀ i, j ≤ i → u i = 5)
    (hR : ∀ u' st h, LU A S u' → (∀ i, j + 1 ≤ i → u' i = 5) → st.1 ≤ 9 → SVq A S x v f w1 w2 st h → RWq (aHs A f) x u' h → ∃ h', RR (x + 31) (nI (rkX (aHs A f) (j + 1))) (nI (sD A S f (aWind A (tH S)) u' 0 (j + 1))) (nI (sD A S f (aWind A (tH S)) u' 1 (j + 1))) (nI (bn u')) h = some ((), h') ∧ G1q A S x v f w1 w2 u' st (ws (noF A S f) (al A S) n (j + 1) u') h h') :
    ∀ (m g y : Nat) (st : Nat × (Nat → Nat)) (h : PH), aC A 0 < m + g → g ≤ aC A 0 → st.1 ≤ 9 → SVq A S x v f w1 w2 st h → RWq (aHs A f) x (va_up u j y) h → ∃ h', f_X3_goFirst_186 RR N m (x + 31) (nI (rkX (aHs A f) j)) (nI (sD A S f (aWind A (tH S)) u 0 j)) (nI (sD A S f (aWind A (tH S)) u 1 j)) (nI (bn u)) (nI j) (nI (aWind A (tH S))) (nI g) h = some ((), h') ∧ G1q A S x v f w1 w2 u st ((cl6 (al A S j) (6 - g) g).flatMap (fun g => ws (noF A S f) (al A S) n (j + 1) (va_up u j g))) h h'
  | 0, g, y, st, h, h1, h2, _, _, _ => by omega
  | m + 1, g, y, st, h, h1, h2, hst, sv, fr => by
    obtain ⟨sb, hs, ⟨q11, q12, q13, q14⟩, p4, p5⟩ := id sv
    obtain ⟨sp, ⟨r9, r10⟩, pv, hS, hC⟩ := id sb
    have hW := pv.2.2.1
    have h5 := hW.1.1
    have hV := aHs_lt hW f
    have hu5 := hw j (Nat.le_refl j)
    have r44 := rkX_le (aHs A f) 4
    have r4j := rkX_lt hj tj
    have jr : inb (nI (rkX (aHs A f) j)) 4 := nI_ix (by omega) (by decide)
    have xr : ix (nI (rkX (aHs A f) j)) = rkX (aHs A f) j := ix_nI (by omega)
    show ∃ h', f_X3_goFirst_186_b RR N (f_X3_goFirst_186 RR N m) (x + 31) _ _ _ _ _ _ _ h = _ ∧ _
    unfold f_X3_goFirst_186_b
    rw [ck_p sp.1, r9, rq_s, ck_p pv.1.1, vR_many pv.1, rq_s, ck_p (vK_many pv.1), vN_many pv.1, ck_p (by decide), pv.2.1.1 0 (by decide), ite_i (nI_leI (by omega) (by omega))]
    by_cases e : aC A 0 ≤ g
    · have eg : g = aC A 0 := by omega
      have sv1 := sv.row (r := rkX (aHs A f) j) (c := cm 5) hv
      have fr1 := fr.up (g := 5) hV hj tj
      rw [vaa, va_self hu5] at fr1
      have E1 : Ex (g1q x v) h (sI h (x + 31 + 2) (rkX (aHs A f) j) (cm 5)) := Ex.sI (by unfold g1q; omega)
      obtain ⟨h', t1, t2⟩ := hR u st _ lu (fun i hi => hw i (by omega)) hst sv1 fr1
      rw [rkX_s tj, sD_yes tj, sD_yes tj, gb_none hT hj hz hu5, gb_none hT hj hz hu5] at t1
      simp only [Nat.add_zero] at t1
      rw [if_pos e, pR_row sp, rq_s, ck_p (pK_row sp), pN_row sp, ck_p jr, xr, ← cm_5, bd_e, ck_p sv1.1.1.1, nI_1, t1, cl_s]
      refine ⟨h', rfl, ?_⟩
      rw [show 6 - g = (5 - g) + 1 by omega, cl6_no (al5 A _ j) (5 - g) g (by omega) (fun f h1 h2 => al_hi (by omega) h2)]
      show G1q A S x v f w1 w2 u st (ws _ _ n (j + 1) (va_up u j 5) ++ []) h h'
      rw [List.append_nil, va_self hu5]
      exact ⟨E1.trans t2.1, t2.2.1, t2.2.2⟩
    · have ecl : cl6 (al A S j) (6 - g) g = if al A S j g = true then g :: cl6 (al A S j) (6 - (g + 1)) (g + 1) else cl6 (al A S j) (6 - (g + 1)) (g + 1) := by
        rw [show 6 - g = (6 - (g + 1)) + 1 by omega]
        rfl
      have ea : al A S j g = true ↔ (tL S j = 0 ∧ 0 < tT S (5 * j + g)) := by
        unfold al
        rw [Bool.or_eq_true, Bool.and_eq_true, decide_eq_true_eq, decide_eq_true_eq, decide_eq_true_eq]
        omega
      unfold f_X3_goFirst_269
      rw [if_neg e, r10, rq_s, ck_p hS.1, c_canLight hS hC hT hj (by omega), cl_s, ite_i yes0, ecl]
      by_cases t : al A S j g = true
      · have sv0 := sv.row (r := rkX (aHs A f) j) (c := cm g) hv
        have fr0 := fr.up (g := g) hV hj tj
        rw [vaa] at fr0
        have E0 : Ex (g1q x v) h (sI h (x + 31 + 2) (rkX (aHs A f) j) (cm g)) := Ex.sI (by unfold g1q; omega)
        have un1 : ∀ K, bd (sI h (x + 31 + 2) (rkX (aHs A f) j) (nI g)) K = (K (sI h (x + 31 + 2) (rkX (aHs A f) j) (cm g)) : Option (Unit × PH)) := fun K => by rw [bd_e, cm_n (by omega)]
        rw [if_neg (fun z => z (ea.mp t)), ck_p sp.1, pR_row sp, rq_s, ck_p (pK_row sp), pN_row sp, ck_p jr, xr, un1, if_pos t, List.flatMap_cons]
        generalize sI h (x + 31 + 2) (rkX (aHs A f) j) (cm g) = h0 at sv0 fr0 E0 un1
        obtain ⟨sb0, -⟩ := id sv0
        obtain ⟨ha, a1, a2, a3⟩ := c_fresh (N := N) hB sb0.2.2.1 (f := g) (w := aWind A (tH S)) (b := 0) (by omega) (aWind_le hW _) (by decide)
        have sva := sv0.gx hv a2 a3
        have fra := fr0.gx hv a2
        obtain ⟨hb, b1, b2, b3⟩ := c_fresh (N := N) hB a3 (f := g) (w := aWind A (tH S)) (b := 1) (by omega) (aWind_le hW _) (by decide)
        have svb := sva.gx hv b2 b3
        have frb := fra.gx hv b2
        have a1 : f_X6_fresh N v (nI g) (nI (aWind A (tH S))) 0 h0 = _ := a1
        have b1 : f_X6_fresh N v (nI g) (nI (aWind A (tH S))) 1 ha = _ := b1
        obtain ⟨hc, c1, c2⟩ := hR (va_up u j g) st hb (lu.up (aHs_b.mp tj).1 (by omega) h5 t) (fun i hi => by rw [va_ne (by omega)]; exact hw i (by omega)) hst svb frb
        rw [rkX_s tj, sD_yes tj, sD_yes tj, sD_up, sD_up, gb_up hz h5 (by omega), gb_up hz h5 (by omega), bn_up hj hu5 (by omega)] at c1
        obtain ⟨h', d1, d2⟩ := c_186 hB hv hT lu hj tj hz hw hR m (g + 1) g _ hc (by omega) (by omega) (Nat.le_trans (spL_le _ _) hst) c2.2.1 c2.2.2
        refine ⟨h', ?_, ((((E0.trans (g1q_gx a2)).trans (g1q_gx b2)).trans c2.1).trans d2.1), by rw [spL_app]; exact d2.2.1, d2.2.2⟩
        rw [ck_p sb0.1.1, sb0.2.1.1, rq_s, ck_p sb0.2.2.1.1.1, a1, cl_s, ck_p sva.1.1.1, sva.1.2.1.1, rq_s, ck_p a3.1.1, b1, cl_s, ck_p svb.1.1.1, nI_1, nI_1, nI_1, nI_add, nI_add, c1, cl_s, bd_e]
        exact d1
      · rw [if_pos (fun z => t (ea.mpr z)), if_neg t, bd_e, nI_1]
        exact c_186 hB hv hT lu hj tj hz hw hR m (g + 1) y st h (by omega) (by omega) hst sv fr
theorem spL_no1 {st : Nat × (Nat → Nat)} {l : List (Nat → Nat)} {h : PH} (hl : ∀ z, z ∈ l → st.1 ≤ bn z ∨ sbs A S z f ≠ w1) (sv : SVq A S x v f w1 w2 st h) (fr : RWq (aHs A f) x u h) : G1q A S x v f w1 w2 u st l h h := ⟨Ex.rf, by rw [spL_no l hl]; exact sv, fr⟩
theorem c_go1 (hB : 2000 ≤ N) (hv : x + 43 ≤ v) (hT : WS A J S) (hH : tH S < 2 ^ 30) : ∀ (m j d : Nat) (u : Nat → Nat) (st : Nat × (Nat → Nat)) (h : PH), m + j = 4 → m < d → LU A S u → (∀ i, j ≤ i → u i = 5) → st.1 ≤ 9 → SVq A S x v f w1 w2 st h → RWq (aHs A f) x u h → ∃ h', f_X3_goFirst d N (x + 31) (nI (rkX (aHs A f) j)) (nI (sD A S f (aWind A (tH S)) u 0 j)) (nI (sD A S f (aWind A (tH S)) u 1 j)) (nI (bn u)) h = some ((), h') ∧ G1q A S x v f w1 w2 u st (ws (noF A S f) (al A S) m j u) h h'
  | 0, j, d, u, st, h, hm, hd, lu, hw, hst, sv, fr => by
    have ej : j = 4 := by omega
    subst ej
    obtain ⟨d', rfl⟩ : ∃ d', d = d' + 1 := ⟨d - 1, by omega⟩
    obtain ⟨sb, hs, ⟨q11, q12, q13, q14⟩, p4, p5⟩ := id sv
    obtain ⟨sp, ⟨r9, r10⟩, pv, hS, hC⟩ := id sb
    have hW := pv.2.2.1
    have bw := bn_le u
    have r44 := rkX_le (aHs A f) 4
    show ∃ h', f_X3_goFirst_b (f_X3_goFirst d' N) N (x + 31) _ _ _ _ h = _ ∧ _
    unfold f_X3_goFirst_b
    rw [ck_p sp.1, q14, ite_i (nI_ltI (by omega) (by omega))]
    by_cases c1 : bn u < st.1
    · obtain ⟨h', k1, k2, k3, k4⟩ := c_leaf (N := N) (RR := f_X3_goFirst d' N) hB hv hT lu hst c1 sv fr rfl rfl
      rw [if_pos c1, q11, if_neg (nI_nlt (Nat.le_refl _) (by omega)), k1]
      exact ⟨h', rfl, k2, k3, k4⟩
    · rw [if_neg c1]
      refine ⟨h, rfl, spL_no1 (fun z hz => Or.inl ?_) sv fr⟩
      have := bn_mono (ws_Le hw hz)
      omega
  | m + 1, j, d, u, st, h, hm, hd, lu, hw, hst, sv, fr => by
    by_cases tj : (aHs A f).testBit j = true
    · have hj : j < 4 := by omega
      obtain ⟨d', rfl⟩ : ∃ d', d = d' + 1 := ⟨d - 1, by omega⟩
      obtain ⟨sb, hs, ⟨q11, q12, q13, q14⟩, p4, p5⟩ := id sv
      obtain ⟨sp, ⟨r9, r10⟩, pv, hS, hC⟩ := id sb
      have hW := pv.2.2.1
      have h5 := hW.1.1
      have hV := aHs_lt hW f
      have bw := bn_le u
      have r44 := rkX_le (aHs A f) 4
      have r4j := rkX_lt hj tj
      have hu5 := hw j (Nat.le_refl j)
      have hR : ∀ u' st h, LU A S u' → (∀ i, j + 1 ≤ i → u' i = 5) → st.1 ≤ 9 → SVq A S x v f w1 w2 st h → RWq (aHs A f) x u' h → ∃ h', f_X3_goFirst d' N (x + 31) (nI (rkX (aHs A f) (j + 1))) (nI (sD A S f (aWind A (tH S)) u' 0 (j + 1))) (nI (sD A S f (aWind A (tH S)) u' 1 (j + 1))) (nI (bn u')) h = some ((), h') ∧ G1q A S x v f w1 w2 u' st (ws (noF A S f) (al A S) m (j + 1) u') h h' := fun u' st h k0 k1 k2 k3 k4 => c_go1 hB hv hT hH m (j + 1) d' u' st h (by omega) (by omega) k0 k1 k2 k3 k4
      have hsj := hs (rkX (aHs A f) j) (by omega)
      rw [hP_r _ hV j hj tj, show hsI j = nI j from if_neg (by omega)] at hsj
      show ∃ h', f_X3_goFirst_b (f_X3_goFirst d' N) N (x + 31) _ _ _ _ h = _ ∧ _
      unfold f_X3_goFirst_b
      rw [ck_p sp.1, q14, ite_i (nI_ltI (by omega) (by omega))]
      by_cases c1 : bn u < st.1
      rotate_left
      · rw [if_neg c1]
        refine ⟨h, rfl, spL_no1 (fun z hz => Or.inl ?_) sv fr⟩
        have := bn_mono (ws_Le hw hz)
        omega
      have jr : inb (nI (rkX (aHs A f) j)) 4 := nI_ix (by omega) (by decide)
      have xr : ix (nI (rkX (aHs A f) j)) = rkX (aHs A f) j := ix_nI (by omega)
      have j4 : inb (nI j) 4 := nI_ix hj (by decide)
      have xj : ix (nI j) = j := ix_nI (by omega)
      have tT := hT.2.1 j hj
      rw [if_pos c1, q11, if_pos (nI_lt r4j (by omega)), pR_houses sp, rq_s, ck_p (pK_houses sp), pN_houses sp, ck_p jr, xr, hsj, bd_e, r9, rq_s, r10, rq_s, ck_p hS.1, ck_p pv.1.1, hC.1, c_windAt pv.1 pv.2.1 hW (by omega), cl_s, ck_p sp.1, r10, rq_s, ck_p hS.1, c_burns hS hC hT hj, cl_s, ite_i yes0]
      by_cases z : 0 < tL S j
      · have nb : ¬ (noF A S f).testBit j = true := fun q => by have := (noF_b.mp q).2.2; omega
        obtain ⟨ha, a1, a2, a3⟩ := c_givesOf (N := N) hB pv (F := tF S j) (l := tL S j) (w := aWind A (tH S)) (b := 0) (by omega) tT.1 (aWind_le hW _) (by decide)
        have sva := sv.gx hv a2 a3
        have fra := fr.gx hv a2
        obtain ⟨hb, b1', b2, b3⟩ := c_givesOf (N := N) hB a3 (F := tF S j) (l := tL S j) (w := aWind A (tH S)) (b := 1) (by omega) tT.1 (aWind_le hW _) (by decide)
        have svb := sva.gx hv b2 b3
        have frb := fra.gx hv b2
        have a1 : f_X6_givesOf N v (nI (tF S j) + (-1)) (nI (tL S j)) (nI (aWind A (tH S))) 0 h = _ := a1
        have b1' : f_X6_givesOf N v (nI (tF S j) + (-1)) (nI (tL S j)) (nI (aWind A (tH S))) 1 ha = _ := b1'
        obtain ⟨h', k1, k2⟩ := hR u st hb lu (fun i hi => hw i (by omega)) hst svb frb
        rw [rkX_s tj, sD_yes tj, sD_yes tj, gb_fire z, gb_fire z] at k1
        have hSa := sva.1.2.2.2.1
        have hCa := sva.1.2.2.2.2
        rw [if_neg (fun q => q z), ck_p sp.1, r9, rq_s, r10, rq_s, ck_p hS.1, sR_fuel hS, rq_s, ck_p (sK_fuel hS), sN_fuel hS, ck_p j4, rq_s, ck_p hS.1, sR_left hS, rq_s, ck_p (sK_left hS), sN_left hS, ck_p j4, ck_p pv.1.1, xj, hC.2.2.1 j hj, hC.2.2.2.1 j hj, a1, cl_s, ck_p sva.1.1.1, sva.1.2.1.1, rq_s, sva.1.2.1.2, rq_s, ck_p hSa.1, sR_fuel hSa, rq_s, ck_p (sK_fuel hSa), sN_fuel hSa, ck_p j4, rq_s, ck_p hSa.1, sR_left hSa, rq_s, ck_p (sK_left hSa), sN_left hSa, ck_p j4, ck_p a3.1.1, hCa.2.2.1 j hj, hCa.2.2.2.1 j hj, b1', cl_s, ck_p svb.1.1.1, nI_1, nI_add, nI_add, k1, cl_s, ws_nob nb]
        exact ⟨h', rfl, ((g1q_gx a2).trans (g1q_gx b2)).trans k2.1, k2.2.1, k2.2.2⟩
      · have nb : (noF A S f).testBit j = true := noF_b.mpr ⟨(aHs_b.mp tj).1, (aHs_b.mp tj).2, by omega⟩
        obtain ⟨h', k1, k2⟩ := c_186 (N := N) hB hv hT lu (RR := f_X3_goFirst d' N) hj tj (by omega) hw hR N 0 5 st h (by omega) (by omega) hst sv (by rw [va_self hu5]; exact fr)
        rw [if_pos z, ws_bit nb]
        exact ⟨h', k1, k2⟩
    · have nb : ¬ (noF A S f).testBit j = true := fun z => tj (nf_sub j z)
      have k := c_go1 hB hv hT hH m (j + 1) d u st h (by omega) (by omega) lu (fun i hi => hw i (by omega)) hst sv fr
      rw [rkX_n tj, sD_no tj, sD_no tj] at k
      rw [ws_nob nb]
      exact k
end SPF1
