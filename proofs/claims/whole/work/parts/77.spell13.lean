/-! The duty of spell, the class's side: the first hour's search. -/
def g1P (x v z : Nat) : Prop := g2P x v z ∨ z = x + 33
def G1 (A : AV) (S : AS) (x v f : Nat) (w1 w2 : Int32) (u : Nat → Nat) (j : Nat) (st : Nat × (Nat → Nat)) (l : List (Nat → Nat)) (h h' : PH) : Prop := Ex (g1P x v) h h' ∧ SV A S x v f w1 w2 h' (spL A S f w1 w2 l st) ∧ FRs A x f h' u j
section SPD
variable {N x J v f : Nat} {A : AV} {S : AS} {w1 w2 : Int32} {u : Nat → Nat}
theorem scL_G {T : AS} {c b : Nat} {l : List (Nat → Nat)} : scL A T f w2 c l b = scG c (fwL A T f w2 l 9) b := by
  have := scL_eq (A := A) (S := T) (f := f) (w := w2) (c := c) (b := b) l 9 (Or.inl rfl)
  have e : scG c 9 b = b := by unfold scG; rw [if_neg (fun z => z.1 rfl)]
  rw [e] at this
  exact this
theorem c_endFirst (hN : 2000 ≤ N) (hv : x + 37 ≤ v) (hT : WS A J S) (lu : LU A S u) (hw2 : w2 = -2 ∨ (w2 = -1 ∨ ∃ k, k < aC A 3 ∧ w2 = nI k)) {st : Nat × (Nat → Nat)} {h : PH} (hst : st.1 ≤ 9) (hb : bn u < st.1) (sv : SV A S x v f w1 w2 h st) (fr : FRs A x f h u 4) : ∃ h', f_X3_endFirst N (x + 31) (nI (sD A S f (aWind A (tH S)) u 0 4)) (nI (sD A S f (aWind A (tH S)) u 1 4)) (nI (bn u)) h = some ((), h') ∧ Ex (g2P x v) h h' ∧ SV A S x v f w1 w2 h' (spS A S f w1 w2 st u) ∧ FRs A x f h' u 4 := by
  obtain ⟨sp, ⟨r3, r4⟩, pv, hS, hC, ⟨q5, q6, q7, q8, q9, q10⟩, hh, hk⟩ := id sv
  have hW := pv.2.2.1
  have bu := bn_le u
  have b0 := sD_bd (A := A) (S := S) hW (f := f) (w := aWind A (tH S)) (b := 0) (u := u) 4
  have b1 := sD_bd (A := A) (S := S) hW (f := f) (w := aWind A (tH S)) (b := 1) (u := u) 4
  have x0 := sD_4 (A := A) (S := S) hW (f := f) (b := 0) (u := u)
  have x1 := sD_4 (A := A) (S := S) hW (f := f) (b := 1) (u := u)
  unfold f_X3_endFirst
  rw [ck_p sp.1, r3, rq_s, ck_p pv.1.1, c_signOf (by omega) pv.1 pv.2.1 hW (by omega) (by omega), cl_s, ck_p sp.1, q6, x0, x1]
  show ∃ h', (if sbs A S u f = w1 then _ else _) = _ ∧ _
  by_cases g : sbs A S u f = w1
  · rw [if_pos g, q7]
    by_cases e2 : w2 = -2
    · obtain ⟨h', k1, k2, k3, k4⟩ := c_keep (N := N) (c := bn u) hv sv fr
      have e : spS A S f w1 w2 st u = (bn u, u) := by
        have e0 : sp2 A S f w2 u = 0 := by unfold sp2; rw [if_pos e2]
        unfold spS
        rw [e0, if_pos ⟨hb, g, by decide, hb⟩, Nat.add_zero]
      rw [if_pos e2, k1, cl_s, e]
      exact ⟨h', rfl, k2.mono (fun z hz => by unfold g2P; omega), k3, k4⟩
    · obtain ⟨h', k1, k2, k3, k4⟩ := c_go2 (N := N) hN hv hT lu bu (hw2.resolve_left e2) 4 0 40 u5 st h rfl (by decide) (fun _ _ => rfl) hst sv fr
      rw [show bn u5 = 0 from rfl, Nat.add_zero] at k1
      have k1 : f_X3_goSecond 40 N (x + 31) 0 0 0 (nI (bn u)) h = _ := k1
      rw [if_neg e2, k1, cl_s]
      refine ⟨h', rfl, k2, ?_, k4⟩
      have e3 : fwL A (S2 A S u) f w2 (ws (noF A (S2 A S u) f) (al A (S2 A S u)) 4 0 u5) 9 = sp2 A S f w2 u := by unfold sp2; rw [if_neg e2]; rfl
      rw [scL_G, e3] at k3
      unfold spS
      by_cases q : sp2 A S f w2 u ≠ 9 ∧ bn u + sp2 A S f w2 u < st.1
      · have e4 : scG (bn u) (sp2 A S f w2 u) st.1 = bn u + sp2 A S f w2 u := if_pos q
        rw [if_pos ⟨hb, g, q.1, q.2⟩]
        rw [e4, kp_lt q.2] at k3
        exact k3
      · have e4 : scG (bn u) (sp2 A S f w2 u) st.1 = st.1 := if_neg q
        rw [if_neg (fun z => q ⟨z.2.2.1, z.2.2.2⟩)]
        rw [e4, kp_id] at k3
        exact k3
  · rw [if_neg g]
    refine ⟨h, rfl, Ex.rf, ?_, fr⟩
    unfold spS
    rw [if_neg (fun z => g z.2.1)]
    exact sv
theorem SV.row {h : PH} {st : Nat × (Nat → Nat)} {r : Nat} {c : Int32} (hv : x + 37 ≤ v) (p : SV A S x v f w1 w2 h st) : SV A S x v f w1 w2 (sI h (x + 31 + 2) r c) st := by
  obtain ⟨p1, ⟨p2, p3⟩, p4, p5, p6, p7, p8, p9⟩ := p
  have E : Ex (fun z => z = x + 33) h (sI h (x + 31 + 2) r c) := Ex.sI (by omega)
  refine ⟨p1.sm Sm.sI, ⟨p2, p3⟩, p4.ex E (fun z z1 z2 => by omega), p5.sm Sm.sI, p6.ex E (fun z z1 z2 => by omega), ?_, ?_, ?_⟩
  · rw [E.2.2.2 (x + 31) (by omega)]; exact p7
  · rw [E.2.2.2 (x + 31 + 1) (by omega)]; exact p8
  · rw [E.2.2.2 (x + 31 + 3) (by omega)]; exact p9
theorem FRs.up {h : PH} {j g : Nat} (tj : (aHs A f).testBit j = true) (p : FRs A x f h u j) : FRs A x f (sI h (x + 31 + 2) (rkX (aHs A f) j) (cm g)) (va_up u j g) (j + 1) := fun i hi ti => by
  rw [hI_sI_eq]
  by_cases e : i = j
  · rw [e, va_eq, va_eq]
  · rw [va_ne e, va_ne (fun z => e (rkX_inj ti tj z))]
    exact p i (by omega) ti
theorem FRs.down {h : PH} {j k : Nat} {u' : Nat → Nat} (hj : j ≤ k) (e : ∀ i, i < j → u' i = u i) (p : FRs A x f h u' k) : FRs A x f h u j := fun i hi ti => by
  rw [p i (by omega) ti, e i hi]
theorem LU.up (lu : LU A S u) {j g : Nat} (hb : j < aC A 2) (hg : g < aC A 0) (h5 : aC A 0 ≤ 5) (t : al A S j g = true) : LU A S (va_up u j g) := fun k hk => by
  by_cases e : k = j
  · subst e
    rw [va_eq]
    unfold al at t
    rw [Bool.or_eq_true, Bool.and_eq_true, decide_eq_true_eq, decide_eq_true_eq, decide_eq_true_eq] at t
    rcases t with t | t
    · omega
    · exact Or.inr ⟨hb, t.1, t.2.1, t.2.2⟩
  · rw [va_ne e]; exact lu k hk
theorem g1_gx {h h' : PH} (g : Gx v h h') : Ex (g1P x v) h h' := g.ex.mono (fun z hz => by unfold g1P g2P; omega)
theorem cm_5 : cm 5 = -1 := if_pos rfl
theorem cm_n {n : Nat} (h : n < 5) : cm n = nI n := if_neg (by omega)
/-- the fuels that a house may light in the first hour, from g on, then none -/
theorem c_148f (hN : 2000 ≤ N) (hv : x + 37 ≤ v) (hT : WS A J S) (lu : LU A S u) {j n : Nat} {RR : Nat → Int32 → Int32 → Int32 → Int32 → PH → Option (Unit × PH)} (hj : j < 4) (tj : (aHs A f).testBit j = true) (hz : tL S j = 0) (hw : ∀ i, j ≤ i → u i = 5)
    (hR : ∀ u' st h, LU A S u' → (∀ i, j + 1 ≤ i → u' i = 5) → st.1 ≤ 9 → SV A S x v f w1 w2 h st → FRs A x f h u' (j + 1) → ∃ h', RR (x + 31) (nI (rkX (aHs A f) (j + 1))) (nI (sD A S f (aWind A (tH S)) u' 0 (j + 1))) (nI (sD A S f (aWind A (tH S)) u' 1 (j + 1))) (nI (bn u')) h = some ((), h') ∧ G1 A S x v f w1 w2 u' (j + 1) st (ws (noF A S f) (al A S) n (j + 1) u') h h') :
    ∀ (m g : Nat) (st : Nat × (Nat → Nat)) (h : PH), aC A 0 < m + g → g ≤ aC A 0 → st.1 ≤ 9 → SV A S x v f w1 w2 h st → FRs A x f h u j → ∃ h', f_X3_goFirst_148 RR N m (x + 31) (nI (rkX (aHs A f) j)) (nI (sD A S f (aWind A (tH S)) u 0 j)) (nI (sD A S f (aWind A (tH S)) u 1 j)) (nI (bn u)) (nI j) (nI g) h = some ((), h') ∧ G1 A S x v f w1 w2 u j st ((cl6 (al A S j) (6 - g) g).flatMap (fun g => ws (noF A S f) (al A S) n (j + 1) (va_up u j g))) h h'
  | 0, g, st, h, h1, h2, _, _, _ => by omega
  | m + 1, g, st, h, h1, h2, hst, sv, fr => by
    obtain ⟨sp, ⟨r3, r4⟩, pv, hS, hC, ⟨q5, q6, q7, q8, q9, q10⟩, hh, hk⟩ := id sv
    have hW := pv.2.2.1
    have h5 := hW.1.1
    have hu5 := hw j (Nat.le_refl j)
    have r44 := rkX_le (aHs A f) 4
    have r4j := rkX_lt hj tj
    have jr : inb (nI (rkX (aHs A f) j)) 4 := nI_ix (by omega) (by decide)
    have xr : ix (nI (rkX (aHs A f) j)) = rkX (aHs A f) j := ix_nI (by omega)
    show ∃ h', f_X3_goFirst_148_b RR N (f_X3_goFirst_148 RR N m) (x + 31) _ _ _ _ _ _ h = _ ∧ _
    unfold f_X3_goFirst_148_b
    rw [ck_p sp.1, r3, rq_s, ck_p pv.1.1, vR_many pv.1, rq_s, ck_p (vK_many pv.1), vN_many pv.1, ck_p (by decide), pv.2.1.1 0 (by decide), ite_i (nI_leI (by omega) (by omega))]
    by_cases e : aC A 0 ≤ g
    · have eg : g = aC A 0 := by omega
      have sv1 := sv.row (r := rkX (aHs A f) j) (c := cm 5) hv
      have fr1 := fr.up (g := 5) tj
      rw [va_self hu5] at fr1
      have E1 : Ex (g1P x v) h (sI h (x + 31 + 2) (rkX (aHs A f) j) (cm 5)) := Ex.sI (by unfold g1P; omega)
      obtain ⟨h', t1, t2⟩ := hR u st _ lu (fun i hi => hw i (by omega)) hst sv1 fr1
      rw [rkX_s tj, sD_yes tj, sD_yes tj, gb_none hT hj hz hu5, gb_none hT hj hz hu5] at t1
      simp only [Nat.add_zero] at t1
      rw [if_pos e, sp.2.1.2.1, rq_s, ck_p sp.2.2.2.1.1, sp.2.2.2.1.2, ck_p jr, xr, ← cm_5, bd_e, ck_p sv1.1.1, nI_1, t1, cl_s]
      refine ⟨h', rfl, ?_⟩
      rw [show 6 - g = (5 - g) + 1 by omega, cl6_no (al5 A _ j) (5 - g) g (by omega) (fun f h1 h2 => al_hi (by omega) h2)]
      show G1 A S x v f w1 w2 u j st (ws _ _ n (j + 1) (va_up u j 5) ++ []) h h'
      rw [List.append_nil, va_self hu5]
      exact ⟨E1.trans t2.1, t2.2.1, t2.2.2.down (by omega) (fun _ _ => rfl)⟩
    · have ecl : cl6 (al A S j) (6 - g) g = if al A S j g = true then g :: cl6 (al A S j) (6 - (g + 1)) (g + 1) else cl6 (al A S j) (6 - (g + 1)) (g + 1) := by
        rw [show 6 - g = (6 - (g + 1)) + 1 by omega]
        rfl
      have ea : al A S j g = true ↔ (tL S j = 0 ∧ 0 < tT S (5 * j + g)) := by
        unfold al
        rw [Bool.or_eq_true, Bool.and_eq_true, decide_eq_true_eq, decide_eq_true_eq, decide_eq_true_eq]
        omega
      unfold f_X3_goFirst_235
      rw [if_neg e, r4, rq_s, ck_p hS.1, c_canLight hS hC hT hj (by omega), cl_s, ite_i yes0, ecl]
      by_cases t : al A S j g = true
      · have sv0 := sv.row (r := rkX (aHs A f) j) (c := cm g) hv
        have fr0 := fr.up (g := g) tj
        have E0 : Ex (g1P x v) h (sI h (x + 31 + 2) (rkX (aHs A f) j) (cm g)) := Ex.sI (by unfold g1P; omega)
        have un1 : ∀ K, bd (sI h (x + 31 + 2) (rkX (aHs A f) j) (nI g)) K = (K (sI h (x + 31 + 2) (rkX (aHs A f) j) (cm g)) : Option (Unit × PH)) := fun K => by rw [bd_e, cm_n (by omega)]
        rw [if_neg (fun z => z (ea.mp t)), ck_p sp.1, sp.2.1.2.1, rq_s, ck_p sp.2.2.2.1.1, sp.2.2.2.1.2, ck_p jr, xr, un1, if_pos t, List.flatMap_cons]
        generalize sI h (x + 31 + 2) (rkX (aHs A f) j) (cm g) = h0 at sv0 fr0 E0 un1
        obtain ⟨ha, a1, a2, a3⟩ := c_fresh (N := N) hN sv0.2.2.1 (f := g) (w := aWind A (tH S)) (b := 0) (by omega) (aWind_le hW _) (by decide)
        have sva := sv0.gx hv a2 a3
        have fra := fr0.gx hv a2
        obtain ⟨hb, b1, b2, b3⟩ := c_fresh (N := N) hN a3 (f := g) (w := aWind A (tH S)) (b := 1) (by omega) (aWind_le hW _) (by decide)
        have svb := sva.gx hv b2 b3
        have frb := fra.gx hv b2
        have a1 : f_X6_fresh N v (nI g) (nI (aWind A (tH S))) 0 h0 = _ := a1
        have b1 : f_X6_fresh N v (nI g) (nI (aWind A (tH S))) 1 ha = _ := b1
        obtain ⟨hc, c1, c2⟩ := hR (va_up u j g) st hb (lu.up (aHs_b.mp tj).1 (by omega) h5 t) (fun i hi => by rw [va_ne (by omega)]; exact hw i (by omega)) hst svb frb
        rw [rkX_s tj, sD_yes tj, sD_yes tj, sD_up, sD_up, gb_up hz h5 (by omega), gb_up hz h5 (by omega), bn_up hj hu5 (by omega)] at c1
        obtain ⟨h', d1, d2⟩ := c_148f hN hv hT lu hj tj hz hw hR m (g + 1) _ hc (by omega) (by omega) (Nat.le_trans (spL_le _ _) hst) c2.2.1 (c2.2.2.down (by omega) (fun i hi => va_ne (by omega)))
        refine ⟨h', ?_, ((((E0.trans (g1_gx a2)).trans (g1_gx b2)).trans c2.1).trans d2.1), by rw [spL_app]; exact d2.2.1, d2.2.2⟩
        rw [ck_p sv0.1.1, sv0.2.1.1, rq_s, ck_p sv0.2.2.1.1.1, sv0.2.2.2.2.2.1.2.2.2.1, a1, cl_s, ck_p sva.1.1, sva.2.1.1, rq_s, ck_p a3.1.1, sva.2.2.2.2.2.1.2.2.2.1, b1, cl_s, ck_p svb.1.1, nI_1, nI_1, nI_1, nI_add, nI_add, c1, cl_s, bd_e]
        exact d1
      · rw [if_pos (fun z => t (ea.mpr z)), if_neg t, bd_e, nI_1]
        exact c_148f hN hv hT lu hj tj hz hw hR m (g + 1) st h (by omega) (by omega) hst sv fr
theorem spL_no1 {st : Nat × (Nat → Nat)} {l : List (Nat → Nat)} {j : Nat} {h : PH} (hl : ∀ z, z ∈ l → st.1 ≤ bn z ∨ sbs A S z f ≠ w1) (sv : SV A S x v f w1 w2 h st) (fr : FRs A x f h u j) : G1 A S x v f w1 w2 u j st l h h := ⟨Ex.rf, by rw [spL_no l hl]; exact sv, fr⟩
theorem c_go1 (hN : 2000 ≤ N) (hv : x + 37 ≤ v) (hT : WS A J S) (hw1 : w1 = -1 ∨ ∃ k, k < aC A 3 ∧ w1 = nI k) (hw2 : w2 = -2 ∨ (w2 = -1 ∨ ∃ k, k < aC A 3 ∧ w2 = nI k)) : ∀ (m j d : Nat) (u : Nat → Nat) (st : Nat × (Nat → Nat)) (h : PH), m + j = 4 → m < d → LU A S u → (∀ i, j ≤ i → u i = 5) → st.1 ≤ 9 → SV A S x v f w1 w2 h st → FRs A x f h u j → ∃ h', f_X3_goFirst d N (x + 31) (nI (rkX (aHs A f) j)) (nI (sD A S f (aWind A (tH S)) u 0 j)) (nI (sD A S f (aWind A (tH S)) u 1 j)) (nI (bn u)) h = some ((), h') ∧ G1 A S x v f w1 w2 u j st (ws (noF A S f) (al A S) m j u) h h'
  | 0, j, d, u, st, h, hm, hd, lu, hw, hst, sv, fr => by
    have ej : j = 4 := by omega
    subst ej
    obtain ⟨d', rfl⟩ : ∃ d', d = d' + 1 := ⟨d - 1, by omega⟩
    obtain ⟨sp, ⟨r3, r4⟩, pv, hS, hC, ⟨q5, q6, q7, q8, q9, q10⟩, hh, hk⟩ := id sv
    have hW := pv.2.2.1
    have bw := bn_le u
    have b0 := sD_bd (A := A) (S := S) hW (f := f) (w := aWind A (tH S)) (b := 0) (u := u) 4
    have b1 := sD_bd (A := A) (S := S) hW (f := f) (w := aWind A (tH S)) (b := 1) (u := u) 4
    have r44 := rkX_le (aHs A f) 4
    show ∃ h', f_X3_goFirst_b (f_X3_goFirst d' N) N (x + 31) _ _ _ _ h = _ ∧ _
    unfold f_X3_goFirst_b
    rw [ck_p sp.1, q10, ite_i (nI_leI (by omega) (by omega))]
    by_cases c1 : st.1 ≤ bn u
    · rw [if_pos c1]
      refine ⟨h, rfl, spL_no1 (fun z hz => Or.inl ?_) sv fr⟩
      have := bn_mono (ws_Le hw hz)
      omega
    · rw [if_neg c1, q6, c_tooMuch sp r3 pv (by omega) (by omega) hw1, cl_s, ite_i yb0]
      by_cases t : tm A w1 (sD A S f (aWind A (tH S)) u 0 4) (sD A S f (aWind A (tH S)) u 1 4) = false
      · obtain ⟨h', k1, k2, k3, k4⟩ := c_endFirst (N := N) hN hv hT lu hw2 hst (by omega) sv fr
        rw [if_pos t, ck_p sp.1, q5, if_neg (nI_nlt (Nat.le_refl _) (by omega)), k1, cl_s]
        exact ⟨h', rfl, k2.mono (fun z hz => Or.inl hz), k3, k4⟩
      · have t := tmT t
        rw [if_neg (by rw [t]; decide)]
        exact ⟨h, rfl, spL_no1 (fun z hz => Or.inr (tm_ws hW (Nat.le_refl 4) rfl rfl hw1 t z hz)) sv fr⟩
  | m + 1, j, d, u, st, h, hm, hd, lu, hw, hst, sv, fr => by
    by_cases tj : (aHs A f).testBit j = true
    · have hj : j < 4 := by omega
      obtain ⟨d', rfl⟩ : ∃ d', d = d' + 1 := ⟨d - 1, by omega⟩
      obtain ⟨sp, ⟨r3, r4⟩, pv, hS, hC, ⟨q5, q6, q7, q8, q9, q10⟩, hh, hk⟩ := id sv
      have hW := pv.2.2.1
      have h5 := hW.1.1
      have bw := bn_le u
      have b0 := sD_bd (A := A) (S := S) hW (f := f) (w := aWind A (tH S)) (b := 0) (u := u) j
      have b1 := sD_bd (A := A) (S := S) hW (f := f) (w := aWind A (tH S)) (b := 1) (u := u) j
      have r44 := rkX_le (aHs A f) 4
      have r4j := rkX_lt hj tj
      have hu5 := hw j (Nat.le_refl j)
      have hR : ∀ u' st h, LU A S u' → (∀ i, j + 1 ≤ i → u' i = 5) → st.1 ≤ 9 → SV A S x v f w1 w2 h st → FRs A x f h u' (j + 1) → ∃ h', f_X3_goFirst d' N (x + 31) (nI (rkX (aHs A f) (j + 1))) (nI (sD A S f (aWind A (tH S)) u' 0 (j + 1))) (nI (sD A S f (aWind A (tH S)) u' 1 (j + 1))) (nI (bn u')) h = some ((), h') ∧ G1 A S x v f w1 w2 u' (j + 1) st (ws (noF A S f) (al A S) m (j + 1) u') h h' := fun u' st h k0 k1 k2 k3 k4 => c_go1 hN hv hT hw1 hw2 m (j + 1) d' u' st h (by omega) (by omega) k0 k1 k2 k3 k4
      show ∃ h', f_X3_goFirst_b (f_X3_goFirst d' N) N (x + 31) _ _ _ _ h = _ ∧ _
      unfold f_X3_goFirst_b
      rw [ck_p sp.1, q10, ite_i (nI_leI (by omega) (by omega))]
      by_cases c1 : st.1 ≤ bn u
      · rw [if_pos c1]
        refine ⟨h, rfl, spL_no1 (fun z hz => Or.inl ?_) sv fr⟩
        have := bn_mono (ws_Le hw hz)
        omega
      rw [if_neg c1, q6, c_tooMuch sp r3 pv (by omega) (by omega) hw1, cl_s, ite_i yb0]
      by_cases t : tm A w1 (sD A S f (aWind A (tH S)) u 0 j) (sD A S f (aWind A (tH S)) u 1 j) = false
      rotate_left
      · have t := tmT t
        rw [if_neg (by rw [t]; decide)]
        exact ⟨h, rfl, spL_no1 (fun z hz => Or.inr (tm_ws hW (by omega) rfl rfl hw1 t z hz)) sv fr⟩
      have jr : inb (nI (rkX (aHs A f) j)) 4 := nI_ix (by omega) (by decide)
      have xr : ix (nI (rkX (aHs A f) j)) = rkX (aHs A f) j := ix_nI (by omega)
      have j4 : inb (nI j) 4 := nI_ix hj (by decide)
      have xj : ix (nI j) = j := ix_nI (by omega)
      have tT := hT.2.1 j hj
      have sv0 := sv.row (r := rkX (aHs A f) j) (c := cm 5) hv
      have fr0 := fr.up (g := 5) tj
      rw [va_self hu5] at fr0
      have E0 : Ex (g1P x v) h (sI h (x + 31 + 2) (rkX (aHs A f) j) (cm 5)) := Ex.sI (by unfold g1P; omega)
      rw [if_pos t, ck_p sp.1, q5, if_pos (nI_lt r4j (by omega)), sp.2.1.1, rq_s, ck_p sp.2.2.1.1, sp.2.2.1.2, ck_p jr, xr, hh j hj tj, bd_e, sp.2.1.2.1, rq_s, ck_p sp.2.2.2.1.1, sp.2.2.2.1.2, ck_p jr, ← cm_5, bd_e]
      generalize sI h (x + 31 + 2) (rkX (aHs A f) j) (cm 5) = h0 at sv0 fr0 E0 ⊢
      obtain ⟨sp0, ⟨r30, r40⟩, pv0, hS0, hC0, ⟨-, -, -, q80, -⟩, -⟩ := id sv0
      rw [ck_p sp0.1, r40, rq_s, ck_p hS0.1, c_burns hS0 hC0 hT hj, cl_s, ite_i yes0]
      by_cases z : 0 < tL S j
      · have nb : ¬ (noF A S f).testBit j = true := fun q => by have := (noF_b.mp q).2.2; omega
        obtain ⟨ha, a1, a2, a3⟩ := c_givesOf (N := N) hN pv0 (F := tF S j) (l := tL S j) (w := aWind A (tH S)) (b := 0) (by omega) tT.1 (aWind_le hW _) (by decide)
        have sva := sv0.gx hv a2 a3
        have fra := fr0.gx hv a2
        obtain ⟨hb, b1', b2, b3⟩ := c_givesOf (N := N) hN a3 (F := tF S j) (l := tL S j) (w := aWind A (tH S)) (b := 1) (by omega) tT.1 (aWind_le hW _) (by decide)
        have svb := sva.gx hv b2 b3
        have frb := fra.gx hv b2
        have a1 : f_X6_givesOf N v (nI (tF S j) + (-1)) (nI (tL S j)) (nI (aWind A (tH S))) 0 h0 = _ := a1
        have b1' : f_X6_givesOf N v (nI (tF S j) + (-1)) (nI (tL S j)) (nI (aWind A (tH S))) 1 ha = _ := b1'
        obtain ⟨h', k1, k2⟩ := hR u st hb lu (fun i hi => hw i (by omega)) hst svb frb
        rw [rkX_s tj, sD_yes tj, sD_yes tj, gb_fire z, gb_fire z] at k1
        rw [if_neg (fun q => q z), ck_p sp0.1, r40, rq_s, ck_p hS0.1, sR_fuel hS0, rq_s, ck_p (sK_fuel hS0), sN_fuel hS0, ck_p j4, xj, hC0.2.2.1 j hj, bd_e, rq_s, ck_p hS0.1, sR_left hS0, rq_s, ck_p (sK_left hS0), sN_left hS0, ck_p j4, hC0.2.2.2.1 j hj, bd_e, r30, rq_s, ck_p pv0.1.1, q80, a1, cl_s, ck_p sva.1.1, sva.2.1.1, rq_s, ck_p a3.1.1, sva.2.2.2.2.2.1.2.2.2.1, b1', cl_s, ck_p svb.1.1, nI_1, nI_add, nI_add, k1, cl_s, ws_nob nb]
        exact ⟨h', rfl, ((E0.trans (g1_gx a2)).trans (g1_gx b2)).trans k2.1, k2.2.1, k2.2.2.down (by omega) (fun _ _ => rfl)⟩
      · have nb : (noF A S f).testBit j = true := noF_b.mpr ⟨(aHs_b.mp tj).1, (aHs_b.mp tj).2, by omega⟩
        obtain ⟨h', k1, k2⟩ := c_148f (N := N) hN hv hT lu (RR := f_X3_goFirst d' N) hj tj (by omega) hw hR N 0 st h0 (by omega) (by omega) hst sv0 (fr0.down (by omega) (fun _ _ => rfl))
        rw [if_pos z, ws_bit nb]
        exact ⟨h', k1, E0.trans k2.1, k2.2⟩
    · have nb : ¬ (noF A S f).testBit j = true := fun z => tj (aHs_b.mpr ⟨(noF_b.mp z).1, (noF_b.mp z).2.1⟩)
      obtain ⟨h', k1, k2⟩ := c_go1 hN hv hT hw1 hw2 m (j + 1) d u st h (by omega) (by omega) lu (fun i hi => hw i (by omega)) hst sv (fun i hi ti => fr i (by
        by_cases q : i = j
        · rw [q] at ti; exact absurd ti tj
        · omega) ti)
      rw [rkX_n tj, sD_no tj, sD_no tj] at k1
      rw [ws_nob nb]
      exact ⟨h', k1, k2.1, k2.2.1, k2.2.2.down (by omega) (fun _ _ => rfl)⟩
end SPD
