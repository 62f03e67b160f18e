/-! The duty of spell, the class's side: find, firstOf; the duty. -/
def fnP (x v z : Nat) : Prop := z = x + 31 ∨ z = x + 32 ∨ z = x + 33 ∨ z = x + 34 ∨ z = v + 13 ∨ z = v + 16 ∨ z = v + 17
/-- the search's cells while its houses are being told -/
def SVi (A : AV) (S : AS) (x v f : Nat) (w1 w2 : Int32) (h : PH) (i : Nat) : Prop := SP h (x + 31) ∧ (hR h (x + 31) 3 = some v ∧ hR h (x + 31) 4 = some (x + 3 + 1)) ∧ VA h v A ∧ ST h (x + 3 + 1) ∧ CS h (x + 3 + 1) S ∧ (hI h (x + 31) 5 = nI (rkX (aHs A f) i) ∧ hI h (x + 31) 6 = w1 ∧ hI h (x + 31) 7 = w2 ∧ hI h (x + 31) 8 = nI (aWind A (tH S)) ∧ hI h (x + 31) 9 = nI (aWind A (tH S + 1))) ∧ ∀ j, j < i → (aHs A f).testBit j = true → hI h (x + 31 + 1) (rkX (aHs A f) j) = nI j
/-- what find leaves: the fewest, and what the houses burn first -/
def FD (A : AV) (S : AS) (x v f : Nat) (w1 w2 : Int32) (h : PH) (st : Nat × (Nat → Nat)) : Prop := SV A S x v f w1 w2 h ∧ (st.1 ≠ 9 → hI h (x + 31) 10 = nI st.1 ∧ FRs A x f h st.2 4)
section SPE
variable {N x J v f : Nat} {A : AV} {S : AS} {w1 w2 : Int32}
theorem SP.sR {h : PH} {k j : Nat} {u : Option Nat} (hj : 3 ≤ j) (p : SP h k) : SP (sR h k j u) k := by
  obtain ⟨p1, ⟨r0, r1, r2⟩, rest⟩ := p
  refine ⟨p1, ⟨?_, ?_, ?_⟩, rest⟩ <;> rw [up2R _ _ _ _ (Or.inr (by omega))] <;> assumption
theorem SW.s10 {h : PH} {c : Int32} (hv : x + 37 ≤ v) (p : SW A S x v f w1 w2 h) : SW A S x v f w1 w2 (sI h (x + 31) 10 c) := by
  obtain ⟨⟨p1, ⟨p2, p3⟩, p4, p5, p6, p7, p8⟩, p9⟩ := p
  have E : Ex (fun z => z = x + 31) h (sI h (x + 31) 10 c) := Ex.sI rfl
  refine ⟨⟨p1.sm Sm.sI, ⟨p2, p3⟩, p4.ex E (fun z z1 z2 => by omega), p5.sm Sm.sI, p6.ex E (fun z z1 z2 => by omega), ?_, ?_⟩, p9.row (hI_sI_ne (by omega))⟩
  · rw [hI_sI_eq, va_ne (by decide), va_ne (by decide), va_ne (by decide), va_ne (by decide), va_ne (by decide)]; exact p7
  · rw [hI_sI_ne (by omega)]; exact p8
theorem spL_9 (h : ∀ F, F ≤ 2 * rkX (aHs A f) 4 → (ws (noF A S f) (al A S) 4 0 u5).find? (pF3 A S f w1 w2 F) = none) : (spL A S f w1 w2 (ws (noF A S f) (al A S) 4 0 u5) (9, u5)) = (9, u5) := by
  have r44 := rkX_le (aHs A f) 4
  refine spL_id _ _ (Nat.le_refl 9) (fun u hu => ?_)
  show 9 ≤ coF A S f w1 w2 u
  rcases co_bd (w1 := w1) (w2 := w2) hu with e | e
  · omega
  · have := co_lo (F := 2 * rkX (aHs A f) 4 + 1) (fun F' hF => h F' (by omega)) (by omega) u hu
    omega
/-- by none, by one, by two fuels .. -/
theorem c_112 (hN : 2000 ≤ N) (hv : x + 37 ≤ v) (hT : WS A J S) (hw1 : w1 = -1 ∨ ∃ k, k < aC A 3 ∧ w1 = nI k) (hw2 : w2 = -2 ∨ (w2 = -1 ∨ ∃ k, k < aC A 3 ∧ w2 = nI k)) : ∀ (n F : Nat) (h : PH), F ≤ 2 * rkX (aHs A f) 4 + 1 → 2 * rkX (aHs A f) 4 + 1 < n + F → SW A S x v f w1 w2 h → (∀ F', F' < F → (ws (noF A S f) (al A S) 4 0 u5).find? (pF3 A S f w1 w2 F') = none) → ∃ h', f_X3_find_112 N n (x + 31) (nI F) h = some (if (spL A S f w1 w2 (ws (noF A S f) (al A S) 4 0 u5) (9, u5)).1 = 9 then 0 else 1, h') ∧ Ex (fnP x v) h h' ∧ FD A S x v f w1 w2 h' (spL A S f w1 w2 (ws (noF A S f) (al A S) 4 0 u5) (9, u5))
  | 0, F, h, h1, h2, _, _ => by omega
  | n + 1, F, h, h1, h2, sw, hno => by
    obtain ⟨sp, ⟨r3, r4⟩, pv, hS, hC, ⟨q5, q6, q7, q8, q9⟩, hh⟩ := id sw.1
    have r44 := rkX_le (aHs A f) 4
    have e2 : (2 : Int32) * nI (rkX (aHs A f) 4) = nI (2 * rkX (aHs A f) 4) := by
      rw [show (2 : Int32) = nI 2 from rfl, pk_mul]
    show ∃ h', f_X3_find_112_b N (f_X3_find_112 N n) (x + 31) (nI F) h = _ ∧ _
    unfold f_X3_find_112_b
    rw [ck_p sp.1, q5, e2, ite_i (nI_ltI (by omega) (by omega))]
    by_cases c : 2 * rkX (aHs A f) 4 < F
    · have e9 := spL_9 (A := A) (S := S) (f := f) (w1 := w1) (w2 := w2) (fun F' hF => hno F' (by omega))
      rw [if_pos c, e9, if_pos (show ((9, u5) : Nat × (Nat → Nat)).1 = 9 from rfl)]
      exact ⟨h, rfl, Ex.rf, sw.1, fun z => absurd rfl z⟩
    · have sw1 := sw.s10 (c := nI F) hv
      have E1 : Ex (fnP x v) h (sI h (x + 31) 10 (nI F)) := Ex.sI (by unfold fnP; omega)
      have f1 : hI (sI h (x + 31) 10 (nI F)) (x + 31) 10 = nI F := by rw [hI_sI_eq, va_eq]
      rw [if_neg c, bd_e]
      generalize sI h (x + 31) 10 (nI F) = h0 at sw1 E1 f1 ⊢
      obtain ⟨hc, r, k1, k2⟩ := c_go1 (N := N) (F := F) hN hv hT (by omega) hw1 hw2 4 0 40 u5 h0 rfl (by decide) (fun _ _ => Or.inl rfl) (fun _ _ => rfl) sw1 (fun j hj => absurd hj (Nat.not_lt_zero j))
      rw [show bn u5 = 0 from rfl, dfK_n (Nat.zero_le _), Nat.sub_zero] at k1
      have k1 : f_X3_goFirst 40 N (x + 31) 0 0 0 (nI F) h0 = _ := k1
      have E2 : Ex (fnP x v) h0 hc := k2.1.mono (fun z hz => by unfold g1P at hz; unfold fnP; omega)
      rw [ck_p sw1.1.1.1, k1, cl_s]
      rcases k2.2.2.2 with ⟨z, z1, z2, z3⟩ | ⟨z1, z2⟩
      · have es : (spL A S f w1 w2 (ws (noF A S f) (al A S) 4 0 u5) (9, u5)) = (F, z) := spL_fi _ (9, u5) z z1 (co_lo hno (by omega)) (show F < 9 by omega) (Nat.le_refl 9)
        rw [z2, if_neg one0, es, if_neg (show ¬ ((F, z) : Nat × (Nat → Nat)).1 = 9 by show ¬ F = 9; omega)]
        refine ⟨hc, rfl, E1.trans E2, k2.2.1.1, fun _ => ⟨?_, z3⟩⟩
        rw [k2.1.2.2.2 (x + 31) (by unfold g1P; omega)]
        exact f1
      · obtain ⟨h', t1, t2, t3⟩ := c_112 hN hv hT hw1 hw2 n (F + 1) hc (by omega) (by omega) k2.2.1 (fun F' hF => by
          by_cases e : F' = F
          · rw [e]; exact z1
          · exact hno F' (by omega))
        rw [z2, if_pos rfl, bd_e, nI_1]
        exact ⟨h', t1, (E1.trans E2).trans t2, t3⟩
theorem c_find56 (hN : 5000 ≤ N) (hv : x + 37 ≤ v) (hf : f < 1000) (hT : WS A J S) (hw1 : w1 = -1 ∨ ∃ k, k < aC A 3 ∧ w1 = nI k) (hw2 : w2 = -2 ∨ (w2 = -1 ∨ ∃ k, k < aC A 3 ∧ w2 = nI k)) : ∀ (n i : Nat) (h : PH), aC A 2 < n + i → i ≤ aC A 2 → SVi A S x v f w1 w2 h i → ∃ h', f_X3_find_56 N n (x + 31) v (nI f) (nI i) h = some (if (spL A S f w1 w2 (ws (noF A S f) (al A S) 4 0 u5) (9, u5)).1 = 9 then 0 else 1, h') ∧ Ex (fnP x v) h h' ∧ FD A S x v f w1 w2 h' (spL A S f w1 w2 (ws (noF A S f) (al A S) 4 0 u5) (9, u5))
  | 0, i, h, h1, h2, _ => by omega
  | n + 1, i, h, h1, h2, sv => by
    obtain ⟨sp, ⟨r3, r4⟩, pv, hS, hC, ⟨q5, q6, q7, q8, q9⟩, hh⟩ := id sv
    have hW := pv.2.2.1
    have h4 := hW.1.2.2.1
    have h3 := hW.1.2.1
    show ∃ h', f_X3_find_56_b N (f_X3_find_56 N n) (x + 31) v _ _ h = _ ∧ _
    unfold f_X3_find_56_b f_X3_find_99
    rw [ck_p pv.1.1, vR_many pv.1, rq_s, ck_p (vK_many pv.1), vN_many pv.1, ck_p (by decide), pv.2.1.1 2 (by decide), ite_i (nI_leI (by omega) (by omega))]
    by_cases c : aC A 2 ≤ i
    · have ei : i = aC A 2 := by omega
      have e4 : rkX (aHs A f) i = rkX (aHs A f) 4 := by
        have := rkX_hi (V := aHs A f) (n := aC A 2) (4 - aC A 2) (fun j h1 h2 z => by have := (aHs_b.mp z).1; omega)
        rw [show aC A 2 + (4 - aC A 2) = 4 by omega] at this
        rw [ei]; exact this.symm
      rw [e4] at q5
      have sv1 : SV A S x v f w1 w2 h := ⟨sp, ⟨r3, r4⟩, pv, hS, hC, ⟨q5, q6, q7, q8, q9⟩, fun j hj tj => hh j (by have := (aHs_b.mp tj).1; omega) tj⟩
      obtain ⟨ha, a1, a2, a3, a4⟩ := c_addUp (N := N) (by omega) hv hT sv1
      obtain ⟨h', k1, k2, k3⟩ := c_112 (N := N) (f := f) (by omega) hv hT hw1 hw2 N 0 ha (Nat.zero_le _) (by have := rkX_le (aHs A f) 4; omega) ⟨a3, a4⟩ (fun F' hF => absurd hF (Nat.not_lt_zero F'))
      have k1 : f_X3_find_112 N N (x + 31) 0 ha = _ := k1
      refine ⟨h', ?_, (a2.mono (fun z hz => by unfold adP at hz; unfold fnP; omega)).trans k2, k3⟩
      rw [if_pos c, ck_p sp.1, a1, cl_s, k1]
    · have fl := hW.2.2.1 i (by omega)
      rw [if_neg c, vR_flue pv.1, rq_s, ck_p (vK_flue pv.1), vN_flue pv.1, ck_p (nI_ix (by omega) (by decide)), ix_nI (by omega), pv.2.1.2.2.2.1 i (by omega), ite_i (nI_eq (by omega) (by omega))]
      by_cases e : aF A i = f
      · have ti : (aHs A f).testBit i = true := aHs_b.mpr ⟨by omega, e⟩
        have rl := rkX_le (aHs A f) i
        have jr : inb (nI (rkX (aHs A f) i)) 4 := nI_ix (by omega) (by decide)
        have xr : ix (nI (rkX (aHs A f) i)) = rkX (aHs A f) i := ix_nI (by omega)
        have E1 : Ex (fun z => z = x + 31 ∨ z = x + 32) h (sI h (x + 31 + 1) (rkX (aHs A f) i) (nI i)) := Ex.sI (by omega)
        have f1 : hI (sI h (x + 31 + 1) (rkX (aHs A f) i) (nI i)) (x + 31 + 1) = va_up (hI h (x + 31 + 1)) (rkX (aHs A f) i) (nI i) := hI_sI_eq
        have g1 : hI (sI h (x + 31 + 1) (rkX (aHs A f) i) (nI i)) (x + 31) = hI h (x + 31) := hI_sI_ne (by omega)
        rw [if_pos e, ck_p sp.1, sp.2.1.1, rq_s, ck_p sp.2.2.1.1, sp.2.2.1.2, q5, ck_p jr, xr, bd_e]
        generalize sI h (x + 31 + 1) (rkX (aHs A f) i) (nI i) = ha at E1 f1 g1
        have E2 : Ex (fun z => z = x + 31 ∨ z = x + 32) ha (sI ha (x + 31) 5 (nI (rkX (aHs A f) i + 1))) := Ex.sI (by omega)
        have f2 : hI (sI ha (x + 31) 5 (nI (rkX (aHs A f) i + 1))) (x + 31) = va_up (hI ha (x + 31)) 5 (nI (rkX (aHs A f) i + 1)) := hI_sI_eq
        have g2 : hI (sI ha (x + 31) 5 (nI (rkX (aHs A f) i + 1))) (x + 31 + 1) = hI ha (x + 31 + 1) := hI_sI_ne (by omega)
        rw [ck_p (sp.sm E1.1).1, g1, q5, nI_1, bd_e]
        generalize sI ha (x + 31) 5 (nI (rkX (aHs A f) i + 1)) = hb at E2 f2 g2
        have EE := E1.trans E2
        have sl : hI hb (x + 31) = va_up (hI h (x + 31)) 5 (nI (rkX (aHs A f) i + 1)) := by rw [f2, g1]
        obtain ⟨h', t1, t2, t3⟩ := c_find56 hN hv hf hT hw1 hw2 n (i + 1) hb (by omega) (by omega) ⟨sp.sm EE.1, ⟨by rw [EE.1.2.2.1]; exact r3, by rw [EE.1.2.2.1]; exact r4⟩, pv.ex EE (fun z z1 z2 z3 => by omega), hS.sm EE.1, hC.ex EE (fun z z1 z2 z3 => by omega), by
          rw [sl, va_eq, va_ne (by decide), va_ne (by decide), va_ne (by decide), va_ne (by decide), rkX_s ti]
          exact ⟨rfl, q6, q7, q8, q9⟩, fun j hj tj => by
          rw [g2, f1]
          by_cases z : j = i
          · rw [z, va_eq]
          · rw [va_ne (fun q => z (rkX_inj tj ti q))]
            exact hh j (by omega) tj⟩
        refine ⟨h', ?_, (EE.mono (fun z hz => by unfold fnP; omega)).trans t2, t3⟩
        rw [bd_e, nI_1]
        exact t1
      · have ti : ¬ (aHs A f).testBit i = true := fun z => e (aHs_b.mp z).2
        rw [if_neg e, bd_e, nI_1]
        exact c_find56 hN hv hf hT hw1 hw2 n (i + 1) h (by omega) (by omega) ⟨sp, ⟨r3, r4⟩, pv, hS, hC, by rw [rkX_n ti]; exact ⟨q5, q6, q7, q8, q9⟩, fun j hj tj => hh j (by
          by_cases z : j = i
          · rw [z] at tj; exact absurd tj ti
          · omega) tj⟩
theorem c_find0 (hN : 5000 ≤ N) (hv : x + 37 ≤ v) (hf : f < 1000) (hT : WS A J S) (hJ : J + 1 < 2 ^ 30) (hw1 : w1 = -1 ∨ ∃ k, k < aC A 3 ∧ w1 = nI k) (hw2 : w2 = -2 ∨ (w2 = -1 ∨ ∃ k, k < aC A 3 ∧ w2 = nI k)) {h : PH} (sp : SP h (x + 31)) (hz' : v + 18 ≤ hz h) (pv : VA h v A) (hS : ST h (x + 3 + 1)) (hC : CS h (x + 3 + 1) S) : ∃ g, f_X3_find N (x + 31) v (x + 3 + 1) (nI f) w1 w2 h = f_X3_find_56 N N (x + 31) v (nI f) 0 g ∧ Kx x (fun z => ¬ fnP x v z) h g ∧ SVi A S x v f w1 w2 g 0 := by
  have hW := pv.2.2.1
  have s1 : Shp x h (sR h (x + 31) 3 (some v)) := Shp.sR (Or.inr (Or.inr ⟨rfl, by omega⟩))
  have s2 : Shp x (sR h (x + 31) 3 (some v)) (sR (sR h (x + 31) 3 (some v)) (x + 31) 4 (some (x + 3 + 1))) := Shp.sR (Or.inr (Or.inr ⟨rfl, by omega⟩))
  have sh := s1.trans s2
  have r3 : hR (sR (sR h (x + 31) 3 (some v)) (x + 31) 4 (some (x + 3 + 1))) (x + 31) 3 = some v := by rw [up2R _ _ _ _ (Or.inr (by decide)), up2Rs]
  have r4 : hR (sR (sR h (x + 31) 3 (some v)) (x + 31) 4 (some (x + 3 + 1))) (x + 31) 4 = some (x + 3 + 1) := up2Rs _ _ _ _
  have sp1 : SP (sR h (x + 31) 3 (some v)) (x + 31) := sp.sR (by decide)
  have sp2' : SP (sR (sR h (x + 31) 3 (some v)) (x + 31) 4 (some (x + 3 + 1))) (x + 31) := sp1.sR (by decide)
  have kA : Kx x (fun _ => True) h (sR (sR h (x + 31) 3 (some v)) (x + 31) 4 (some (x + 3 + 1))) := ⟨sh, fun z _ => ⟨rfl, rfl⟩⟩
  have pv2 : VA (sR (sR h (x + 31) 3 (some v)) (x + 31) 4 (some (x + 3 + 1))) v A := pv.kx kA (fun _ _ _ => trivial) hz' hv
  have hS2 : ST (sR (sR h (x + 31) 3 (some v)) (x + 31) 4 (some (x + 3 + 1))) (x + 3 + 1) := hS.shp sh (by omega) (by omega)
  have hC2 : CS (sR (sR h (x + 31) 3 (some v)) (x + 31) 4 (some (x + 3 + 1))) (x + 3 + 1) S := hC.kx kA (fun _ _ _ => trivial)
  unfold f_X3_find
  rw [ck_p sp.1, bd_e, ck_p sp1.1, bd_e]
  generalize sR (sR h (x + 31) 3 (some v)) (x + 31) 4 (some (x + 3 + 1)) = g0 at kA r3 r4 sp2' pv2 hS2 hC2 ⊢
  have hh := hT.1
  have n0 : nI 0 = (0 : Int32) := by decide
  -- the signs, and the wind
  have E1 : Ex (fun z => z = x + 31) g0 (sI (sI g0 (x + 31) 6 w1) (x + 31) 7 w2) := (Ex.sI (P := fun z => z = x + 31) rfl).trans (Ex.sI (P := fun z => z = x + 31) rfl)
  have f1 : hI (sI (sI g0 (x + 31) 6 w1) (x + 31) 7 w2) (x + 31) = va_up (va_up (hI g0 (x + 31)) 6 w1) 7 w2 := by rw [hI_sI_eq, hI_sI_eq]
  rw [ck_p sp2'.1, bd_e, ck_p (sp2'.sm (Sm.sI (h := g0) (a := x + 31) (k := 6) (v := w1))).1, bd_e]
  generalize sI (sI g0 (x + 31) 6 w1) (x + 31) 7 w2 = g1 at E1 f1 ⊢
  have spa := sp2'.sm E1.1
  have pva := pv2.ex E1 (fun z z1 z2 z3 => by omega)
  have hSa := hS2.sm E1.1
  have hCa := hC2.ex E1 (fun z z1 z2 z3 => by omega)
  rw [ck_p hSa.1, ck_p pva.1.1, hCa.1, c_windAt pva.1 pva.2.1 hW (by omega), cl_s, ck_p spa.1, bd_e]
  have E2 : Ex (fun z => z = x + 31) g1 (sI g1 (x + 31) 8 (nI (aWind A (tH S)))) := Ex.sI rfl
  have f2 : hI (sI g1 (x + 31) 8 (nI (aWind A (tH S)))) (x + 31) = va_up (hI g1 (x + 31)) 8 (nI (aWind A (tH S))) := hI_sI_eq
  generalize sI g1 (x + 31) 8 (nI (aWind A (tH S))) = g2 at E2 f2 ⊢
  have spb := spa.sm E2.1
  have pvb := pva.ex E2 (fun z z1 z2 z3 => by omega)
  have hSb := hSa.sm E2.1
  have hCb := hCa.ex E2 (fun z z1 z2 z3 => by omega)
  rw [ck_p hSb.1, ck_p pvb.1.1, hCb.1, nI_1, c_windAt pvb.1 pvb.2.1 hW (by omega), cl_s, ck_p spb.1, bd_e]
  have E3 : Ex (fun z => z = x + 31) g2 (sI (sI g2 (x + 31) 9 (nI (aWind A (tH S + 1)))) (x + 31) 5 0) := (Ex.sI (P := fun z => z = x + 31) rfl).trans (Ex.sI (P := fun z => z = x + 31) rfl)
  have f3 : hI (sI (sI g2 (x + 31) 9 (nI (aWind A (tH S + 1)))) (x + 31) 5 0) (x + 31) = va_up (va_up (hI g2 (x + 31)) 9 (nI (aWind A (tH S + 1)))) 5 0 := by rw [hI_sI_eq, hI_sI_eq]
  rw [ck_p (spb.sm (Sm.sI (h := g2) (a := x + 31) (k := 9) (v := nI (aWind A (tH S + 1))))).1, bd_e]
  generalize sI (sI g2 (x + 31) 9 (nI (aWind A (tH S + 1)))) (x + 31) 5 0 = g3 at E3 f3 ⊢
  have EE := (E1.trans E2).trans E3
  have sl : hI g3 (x + 31) = va_up (va_up (va_up (va_up (va_up (hI g0 (x + 31)) 6 w1) 7 w2) 8 (nI (aWind A (tH S)))) 9 (nI (aWind A (tH S + 1)))) 5 0 := by rw [f3, f2, f1]
  refine ⟨g3, rfl, (kA.mono (fun _ _ => trivial)).trans (EE.kx (fun z hz q => hz (by unfold fnP; omega))), spb.sm E3.1, ⟨by rw [EE.1.2.2.1]; exact r3, by rw [EE.1.2.2.1]; exact r4⟩, pv2.ex EE (fun z z1 z2 z3 => by omega), hS2.sm EE.1, hC2.ex EE (fun z z1 z2 z3 => by omega), ?_, fun j hj => absurd hj (Nat.not_lt_zero j)⟩
  rw [sl]
  refine ⟨by rw [va_eq]; exact n0.symm, ?_, ?_, ?_, ?_⟩
  · rw [va_ne (by decide), va_ne (by decide), va_ne (by decide), va_ne (by decide), va_eq]
  · rw [va_ne (by decide), va_ne (by decide), va_ne (by decide), va_eq]
  · rw [va_ne (by decide), va_ne (by decide), va_eq]
  · rw [va_ne (by decide), va_eq]
theorem c_find (hN : 5000 ≤ N) (hv : x + 37 ≤ v) (hf : f < 1000) (hT : WS A J S) (hJ : J + 1 < 2 ^ 30) (hw1 : w1 = -1 ∨ ∃ k, k < aC A 3 ∧ w1 = nI k) (hw2 : w2 = -2 ∨ (w2 = -1 ∨ ∃ k, k < aC A 3 ∧ w2 = nI k)) {h : PH} (sp : SP h (x + 31)) (hz' : v + 18 ≤ hz h) (pv : VA h v A) (hS : ST h (x + 3 + 1)) (hC : CS h (x + 3 + 1) S) : ∃ h', f_X3_find N (x + 31) v (x + 3 + 1) (nI f) w1 w2 h = some (if (spL A S f w1 w2 (ws (noF A S f) (al A S) 4 0 u5) (9, u5)).1 = 9 then 0 else 1, h') ∧ Kx x (fun z => ¬ fnP x v z) h h' ∧ FD A S x v f w1 w2 h' (spL A S f w1 w2 (ws (noF A S f) (al A S) 4 0 u5) (9, u5)) := by
  have hW := pv.2.2.1
  have n0 : nI 0 = (0 : Int32) := by decide
  obtain ⟨g, r1, r2, r3⟩ := c_find0 (N := N) hN hv hf hT hJ hw1 hw2 sp hz' pv hS hC
  obtain ⟨h', t1, t2, t3⟩ := c_find56 (N := N) hN hv hf hT hw1 hw2 N 0 g (by have := hW.1.2.2.1; omega) (by omega) r3
  rw [n0] at t1
  rw [r1]
  exact ⟨h', t1, r2.trans (t2.kx (fun z hz => hz)), t3⟩
/-- what a house lights first -/
theorem c_fo2 {h : PH} {z : Nat → Nat} (sv : SV A S x v f w1 w2 h) (fr : FRs A x f h z 4) {i : Nat} (hi : i < 4) : ∀ (m j n : Nat), m + j = 4 → m < n → f_X3_firstOf_2 N n (x + 31) (nI i) (nI (rkX (aHs A f) j)) h = some (if j ≤ i ∧ (aHs A f).testBit i = true then cm (z i) else -1, h)
  | 0, j, n, hm, hn => by
    have ej : j = 4 := by omega
    subst ej
    obtain ⟨n', rfl⟩ : ∃ n', n = n' + 1 := ⟨n - 1, by omega⟩
    have r44 := rkX_le (aHs A f) 4
    show f_X3_firstOf_2_b N (f_X3_firstOf_2 N n') (x + 31) _ _ h = _
    unfold f_X3_firstOf_2_b
    rw [ck_p sv.1.1, sv.2.2.2.2.2.1.1, if_pos (nI_le (Nat.le_refl _) (by omega)), if_neg (by omega)]
  | m + 1, j, n, hm, hn => by
    by_cases tj : (aHs A f).testBit j = true
    · obtain ⟨n', rfl⟩ : ∃ n', n = n' + 1 := ⟨n - 1, by omega⟩
      have r44 := rkX_le (aHs A f) 4
      have r4j := rkX_lt (show j < 4 by omega) tj
      have jr : inb (nI (rkX (aHs A f) j)) 4 := nI_ix (by omega) (by decide)
      have xr : ix (nI (rkX (aHs A f) j)) = rkX (aHs A f) j := ix_nI (by omega)
      have sp := sv.1
      show f_X3_firstOf_2_b N (f_X3_firstOf_2 N n') (x + 31) _ _ h = _
      unfold f_X3_firstOf_2_b
      rw [ck_p sp.1, sv.2.2.2.2.2.1.1, if_neg (show ¬ nI (rkX (aHs A f) 4) ≤ nI (rkX (aHs A f) j) by rw [nI_leI (by omega) (by omega)]; omega), sp.2.1.1, rq_s, ck_p sp.2.2.1.1, sp.2.2.1.2, ck_p jr, xr, sv.2.2.2.2.2.2 j (by omega) tj, ite_i (nI_eq (by omega) (by omega))]
      by_cases e : j = i
      · rw [if_pos e, sp.2.1.2.1, rq_s, ck_p sp.2.2.2.1.1, sp.2.2.2.1.2, ck_p jr, fr j (by omega) tj, if_pos ⟨by omega, by rw [← e]; exact tj⟩, e]
      · rw [if_neg e, bd_e, nI_1, ← rkX_s tj, c_fo2 sv fr hi m (j + 1) n' (by omega) (by omega)]
        rw [ite_i (show (j + 1 ≤ i ∧ (aHs A f).testBit i = true) ↔ (j ≤ i ∧ (aHs A f).testBit i = true) from ⟨fun y => ⟨by omega, y.2⟩, fun y => ⟨by omega, y.2⟩⟩)]
    · rw [← rkX_n tj, c_fo2 sv fr hi m (j + 1) n (by omega) (by omega)]
      rw [ite_i (show (j + 1 ≤ i ∧ (aHs A f).testBit i = true) ↔ (j ≤ i ∧ (aHs A f).testBit i = true) from ⟨fun y => ⟨by omega, y.2⟩, fun y => ⟨by
        by_cases q : j = i
        · rw [q] at tj; exact absurd y.2 tj
        · omega, y.2⟩⟩)]
theorem spL_le {f : Nat} {w1 w2 : Int32} : ∀ l st, (spL A S f w1 w2 l st).1 ≤ st.1
  | [], _ => Nat.le_refl _
  | u :: us, st => by
    have a := spL_le (f := f) (w1 := w1) (w2 := w2) us (spS A S f w1 w2 st u)
    have q : (spS A S f w1 w2 st u).1 ≤ st.1 := by
      unfold spS
      split
      · rename_i z
        show bn u + sp2 A S f w2 u ≤ st.1
        omega
      · exact Nat.le_refl _
    exact Nat.le_trans a q
theorem spL_in : ∀ l st, spL A S f w1 w2 l st = st ∨ (spL A S f w1 w2 l st).2 ∈ l
  | [], _ => Or.inl rfl
  | u :: us, st => by
    show spL A S f w1 w2 us (spS A S f w1 w2 st u) = st ∨ (spL A S f w1 w2 us (spS A S f w1 w2 st u)).2 ∈ u :: us
    rcases spL_in us (spS A S f w1 w2 st u) with e | e
    · rw [e]
      unfold spS
      split
      · exact Or.inr List.mem_cons_self
      · exact Or.inl rfl
    · exact Or.inr (List.mem_cons_of_mem _ e)
theorem spL_out {i : Nat} (hi : ¬ (aHs A f).testBit i = true) : (spL A S f w1 w2 (ws (noF A S f) (al A S) 4 0 u5) (9, u5)).2 i = 5 := by
  rcases spL_in (A := A) (S := S) (f := f) (w1 := w1) (w2 := w2) (ws (noF A S f) (al A S) 4 0 u5) (9, u5) with e | e
  · rw [e]; rfl
  · rcases ws_all 4 0 u5 _ e i with q | ⟨q, -⟩
    · rw [q]; rfl
    · exact absurd (aHs_b.mpr ⟨(noF_b.mp q).1, (noF_b.mp q).2.1⟩) hi
theorem sOr2 {c : Int32} {n : Nat} (h : n ≤ 1000) : (¬ c < (-2 : Int32) ∧ ¬ (nI n - (1 : Int32)) < c) ↔ (c = -2 ∨ (c = -1 ∨ (¬ c < 0 ∧ ¬ nI n ≤ c))) := by
  rw [fa_lt, fa_lt, fa_lt, fa_le, fa_eq, fa_eq, nI_m1 h, nI_toInt (by omega), show (-1 : Int32).toInt = -1 by decide, show (-2 : Int32).toInt = -2 by decide, show (0 : Int32).toInt = 0 by decide]
  omega
end SPE
section SPF
variable {N x y o J : Nat}
theorem d_spell (hN2 : 5000 ≤ N) (hJ5 : J < 512) : D_spell (INV N x y o J) (INV N x y o (J + 1)) N x y := by
  intro a b c d h ⟨v, w, A, M, pn, pc, P, lb, K, tn, tb, q⟩
  obtain ⟨p0, ob, pv, pm, pnm, ⟨cM, rS, rD, rR, wM⟩, pP, pK, pT⟩ := id q
  have y0 := p0.1
  have vw := ob.1
  have hW := pv.2.2.1
  have h3 := hW.1.2.1
  have h4 := hW.1.2.2.1
  have h6 := hW.1.2.2.2.1
  have q2 := q.thr 0
  obtain ⟨-, -, -, pm2, -, ⟨-, rS2, -, -, wM2⟩, -⟩ := id q2
  have m2 := pm2.1
  have no : f_X10_spell N x a b c d h = some (-2, h) → f_X11_spell N y a b c d h = some (-2, sI h y 0 0) → wp (f_X10_spell N x a b c d h) (fun r h1 => hK h1 y = 10 ∧ wp (f_X11_spell N y a b c d h1) (fun r2 h2 => r = r2 ∧ INV N x y o (J + 1) h2)) := fun e1 e2 => wp2 e1 pm.1.1 e2 q2.inv
  have sn := sOrN (c := b) (n := aC A 3) (by omega)
  have sn2 := sOr2 (c := c) (n := aC A 3) (by omega)
  by_cases c1 : ¬ a < 0 ∧ ¬ nI (aC A 1) ≤ a
  rotate_left
  · refine no ?_ ?_
    · unfold f_X10_spell
      rw [ck_p ob.k9, ob.R8, rq_s, ck_p pv.1.1, c_has1 pv, cl_s, yesF c1, if_pos rfl]
    · unfold f_X11_spell
      rw [ck_p pm.1.1, bd_e, ck_p m2.1, m_isFlue m2 pm2.2.1, cl_s, yesF c1, if_pos rfl]
  by_cases c2 : b = -1 ∨ (¬ b < 0 ∧ ¬ nI (aC A 3) ≤ b)
  rotate_left
  · refine no ?_ ?_
    · unfold f_X10_spell
      rw [ck_p ob.k9, ob.R8, rq_s, ck_p pv.1.1, c_has1 pv, cl_s, yesT c1, if_neg one0, ck_p ob.k9, c_sOrN ob pv, cl_s, yesF c2, if_pos rfl]
    · unfold f_X11_spell
      rw [ck_p pm.1.1, bd_e, ck_p m2.1, m_isFlue m2 pm2.2.1, cl_s, yesT c1, if_neg one0, ck_p m2.1, mR_valley m2, rq_s, ck_p (mK_valley m2), mN_valley m2, ck_p (by decide), pm2.2.1.1 3 (by decide), m_within, cl_s, yesF (fun z => c2 (sn.mp z)), if_pos rfl]
  by_cases c3 : c = -2 ∨ (c = -1 ∨ (¬ c < 0 ∧ ¬ nI (aC A 3) ≤ c))
  rotate_left
  · refine no ?_ ?_
    · unfold f_X10_spell
      rw [ck_p ob.k9, ob.R8, rq_s, ck_p pv.1.1, c_has1 pv, cl_s, yesT c1, if_neg one0, ck_p ob.k9, c_sOrN ob pv, cl_s, yesT c2, if_neg one0, if_neg (fun z => c3 (Or.inl z)), ck_p ob.k9, c_sOrN ob pv, cl_s, yesF (fun z => c3 (Or.inr z)), if_pos rfl]
    · unfold f_X11_spell
      rw [ck_p pm.1.1, bd_e, ck_p m2.1, m_isFlue m2 pm2.2.1, cl_s, yesT c1, if_neg one0, ck_p m2.1, mR_valley m2, rq_s, ck_p (mK_valley m2), mN_valley m2, ck_p (by decide), pm2.2.1.1 3 (by decide), m_within, cl_s, yesT (sn.mpr c2), if_neg one0, ck_p m2.1, mR_valley m2, rq_s, ck_p (mK_valley m2), mN_valley m2, ck_p (by decide), pm2.2.1.1 3 (by decide), m_within, cl_s, yesF (fun z => c3 (sn2.mp z)), if_pos rfl]
  -- both go to the last question
  have hcls : f_X10_spell N x a b c d h = f_X10_spell_40 N x a b c d h := by
    unfold f_X10_spell
    rw [ck_p ob.k9, ob.R8, rq_s, ck_p pv.1.1, c_has1 pv, cl_s, yesT c1, if_neg one0, ck_p ob.k9, c_sOrN ob pv, cl_s, yesT c2, if_neg one0]
    by_cases e : c = -2
    · rw [if_pos e]
    · rw [if_neg e, ck_p ob.k9, c_sOrN ob pv, cl_s, yesT (c3.resolve_left e), if_neg one0]
  by_cases c4 : d = -1 ∨ (¬ d < 0 ∧ ¬ nI (aC A 2) ≤ d)
  rotate_left
  · refine no ?_ ?_
    · rw [hcls]
      unfold f_X10_spell_40
      rw [if_neg (fun z => c4 (Or.inl z)), ck_p ob.k9, ob.R8, rq_s, ck_p pv.1.1, c_has2 pv, cl_s, yesF (fun z => c4 (Or.inr z)), if_pos rfl]
    · unfold f_X11_spell
      rw [ck_p pm.1.1, bd_e, ck_p m2.1, m_isFlue m2 pm2.2.1, cl_s, yesT c1, if_neg one0, ck_p m2.1, mR_valley m2, rq_s, ck_p (mK_valley m2), mN_valley m2, ck_p (by decide), pm2.2.1.1 3 (by decide), m_within, cl_s, yesT (sn.mpr c2), if_neg one0, ck_p m2.1, mR_valley m2, rq_s, ck_p (mK_valley m2), mN_valley m2, ck_p (by decide), pm2.2.1.1 3 (by decide), m_within, cl_s, yesT (sn2.mpr c3), if_neg one0, if_neg (fun z => c4 (Or.inl z)), ck_p m2.1, m_isHouse m2 pm2.2.1, cl_s, yesF (fun z => c4 (Or.inr z)), if_pos rfl]
  have s1 := sCase (by omega) c2
  have s2 : c = -2 ∨ (c = -1 ∨ ∃ k, k < aC A 3 ∧ c = nI k) := by
    rcases c3 with e | e
    · exact Or.inl e
    · exact Or.inr (sCase (by omega) e)
  have s4 := sCase (by omega) c4
  obtain ⟨f, hf, rfl⟩ := told (by omega) c1
  obtain ⟨h1, r1, k1, sv1, fd1⟩ := c_find (N := N) (f := f) (w1 := b) (w2 := c) hN2 (show x + 37 ≤ v by omega) (by omega) wM.1 (by omega) s1 s2 ob.sp (by have := ob.2.1; omega) pv ob.st cM.1
  have l9 := spL_le (A := A) (S := M.1) (f := f) (w1 := b) (w2 := c) (ws (noF A M.1 f) (al A M.1) 4 0 u5) (9, u5)
  have so := fun i hi => spL_out (A := A) (S := M.1) (f := f) (w1 := b) (w2 := c) (i := i) hi
  have ob1 := ob.shp k1.1
  have qk : INVq N x y o J h1 v w A M pn pc P lb K tn tb := q.keep (k1.mono (fun z hz => by unfold Kp at hz; unfold fnP; omega)) sv1.2.2.1 (by rw [(k1.2 (v + 2) (by unfold fnP; omega)).2]) (by rw [(k1.2 y (by unfold fnP; omega)).1]) (by rw [(k1.2 y (by unfold fnP; omega)).1])
  have q3 := qk.thr 0
  obtain ⟨-, -, -, pm1, -⟩ := id qk
  obtain ⟨-, -, pv3, pm3, -, ⟨-, rS3, -⟩, pP3, -, pT3⟩ := id q3
  have m3 := pm3.1
  have wh : d = -1 ∨ ∃ i, i < 4 ∧ d = nI i := by
    rcases s4 with e | ⟨i, hi, e⟩
    · exact Or.inl e
    · exact Or.inr ⟨i, by omega, e⟩
  obtain ⟨h2, t1, t2, t3, t4⟩ := m_sp64 (N := N) (who := d) hN2 wM.1 (by omega) (f := f) (w1 := b) (w2 := c) (by omega) wh pm3 rS3
  have fin : INV N x y o (J + 1) h2 := by
    refine (q3.keep2 (t2.kx (Q := Kp2 x y) (fun z hz => ?_)) (pv3.ex t2 (fun z z1 z2 z3 => ?_)) (by rw [t2.2.2.1]) (t4 1 (by decide) (by decide)) (t4 54 (by decide) (by decide)) t3).inv
    · unfold Kp2 at hz
      unfold spQ spP inP inM
      omega
    · unfold spQ spP inP inM at z3
      omega
  generalize spL A M.1 f b c (ws (noF A M.1 f) (al A M.1) 4 0 u5) (9, u5) = st at r1 fd1 l9 so t1
  have l9 : st.1 ≤ 9 := l9
  refine wp2 (r := spR st d) (h1 := h1) ?_ pm1.1.1 ?_ fin
  · have c62 : f_X10_spell_62 N x (nI f) b c d h = some (spR st d, h1) := by
      unfold f_X10_spell_62 spR
      rw [ck_p ob.k9, ob.R7, rq_s, ob.R8, rq_s, ob.R1, rq_s, ck_p ob.mt.1, ob.mt.2.1.1, rq_s, ck_p ob.sp.1, r1, cl_s]
      by_cases e9 : st.1 = 9
      · rw [if_pos e9, if_pos rfl, if_pos e9]
      · rw [if_neg e9, if_neg one0, if_neg e9]
        rcases s4 with e | ⟨i, hi, rfl⟩
        · rw [if_pos e, if_pos e, ck_p ob1.k9, ob1.R7, rq_s, ck_p ob1.sp.1, (fd1 e9).1]
        · have fo := c_fo2 (N := N) sv1 (fd1 e9).2 (i := i) (by omega) 4 0 N rfl (by omega)
          have fo : f_X3_firstOf_2 N N (x + 31) (nI i) 0 h1 = _ := fo
          unfold f_X3_firstOf
          rw [if_neg (ni1 (by omega)), if_neg (ni1 (by omega)), ck_p ob1.k9, ob1.R7, rq_s, ck_p ob1.sp.1, fo, cl_s, ix_nI (by omega)]
          by_cases tb : (aHs A f).testBit i = true
          · rw [if_pos ⟨Nat.zero_le _, tb⟩]
            rfl
          · rw [if_neg (fun z => tb z.2), if_pos (so i tb)]
    rw [hcls]
    unfold f_X10_spell_40
    by_cases e : d = -1
    · rw [if_pos e]; exact c62
    · rw [if_neg e, ck_p ob.k9, ob.R8, rq_s, ck_p pv.1.1, c_has2 pv, cl_s, yesT (c4.resolve_left e), if_neg one0]
      exact c62
  · unfold f_X11_spell
    rw [ck_p pm1.1.1, bd_e, ck_p m3.1, m_isFlue m3 pm3.2.1, cl_s, yesT c1, if_neg one0, ck_p m3.1, mR_valley m3, rq_s, ck_p (mK_valley m3), mN_valley m3, ck_p (by decide), pm3.2.1.1 3 (by decide), m_within, cl_s, yesT (sn.mpr c2), if_neg one0, ck_p m3.1, mR_valley m3, rq_s, ck_p (mK_valley m3), mN_valley m3, ck_p (by decide), pm3.2.1.1 3 (by decide), m_within, cl_s, yesT (sn2.mpr c3), if_neg one0]
    by_cases e : d = -1
    · rw [if_pos e]; exact t1
    · rw [if_neg e, ck_p m3.1, m_isHouse m3 pm3.2.1, cl_s, yesT (c4.resolve_left e), if_neg one0]
      exact t1
end SPF
