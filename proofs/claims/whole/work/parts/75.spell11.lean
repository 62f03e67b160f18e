/-! The duty of spell, the class's side: the second hour's search. -/
def g2P (x v z : Nat) : Prop := z = x + 31 ∨ z = x + 34 ∨ z = v + 13 ∨ z = v + 16 ∨ z = v + 17
def kp (st : Nat × (Nat → Nat)) (u : Nat → Nat) (b : Nat) : Nat × (Nat → Nat) := (b, if b = st.1 then st.2 else u)
/-- what the second hour's search has made of the ways l, from st on -/
def G2 (A : AV) (S : AS) (x v f : Nat) (w1 w2 : Int32) (u : Nat → Nat) (c : Nat) (st : Nat × (Nat → Nat)) (l : List (Nat → Nat)) (h h' : PH) : Prop := Ex (g2P x v) h h' ∧ SV A S x v f w1 w2 h' (kp st u (scL A (S2 A S u) f w2 c l st.1)) ∧ FRs A x f h' u 4
section SPB
variable {N x J v f : Nat} {A : AV} {S : AS} {w1 w2 : Int32} {u : Nat → Nat}
theorem kp_id {st : Nat × (Nat → Nat)} : kp st u st.1 = st := by
  unfold kp
  rw [if_pos rfl]
theorem kp_kp {st : Nat × (Nat → Nat)} {b c : Nat} (h1 : c ≤ b) (h2 : b ≤ st.1) : kp (kp st u b) u c = kp st u c := by
  show (c, if c = b then (if b = st.1 then st.2 else u) else u) = (c, if c = st.1 then st.2 else u)
  by_cases e : c = b
  · rw [if_pos e, e]
  · rw [if_neg e, if_neg (show ¬ c = st.1 by omega)]
theorem G2.app {c : Nat} {st : Nat × (Nat → Nat)} {l1 l2 : List (Nat → Nat)} {h h1 h2 : PH} (p : G2 A S x v f w1 w2 u c st l1 h h1) (q : G2 A S x v f w1 w2 u c (kp st u (scL A (S2 A S u) f w2 c l1 st.1)) l2 h1 h2) : G2 A S x v f w1 w2 u c st (l1 ++ l2) h h2 := by
  refine ⟨p.1.trans q.1, ?_, q.2.2⟩
  have e := q.2.1
  rw [kp_kp (by exact scL_le _ _) (scL_le _ _)] at e
  rw [scL_app]
  exact e
theorem G2.pre {c : Nat} {st : Nat × (Nat → Nat)} {l : List (Nat → Nat)} {h h1 h2 : PH} (p : Ex (g2P x v) h h1) (q : G2 A S x v f w1 w2 u c st l h1 h2) : G2 A S x v f w1 w2 u c st l h h2 := ⟨p.trans q.1, q.2⟩
theorem G2.no {c : Nat} {st : Nat × (Nat → Nat)} {l : List (Nat → Nat)} {h : PH} (e : scL A (S2 A S u) f w2 c l st.1 = st.1) (sv : SV A S x v f w1 w2 h st) (fr : FRs A x f h u 4) : G2 A S x v f w1 w2 u c st l h h := ⟨Ex.rf, by rw [e, kp_id]; exact sv, fr⟩
theorem g2_gx {h h' : PH} (g : Gx v h h') : Ex (g2P x v) h h' := g.ex.mono (fun z hz => by unfold g2P; omega)
theorem LU.le5 (h5 : aC A 0 ≤ 5) (lu : LU A S u) : ∀ k, k < 4 → u k ≤ 5 := fun k hk => by
  rcases lu k hk with e | ⟨-, e, -⟩ <;> omega
theorem cmq_eq {n g : Nat} (hn : n ≤ 5) (hg : g < 5) : nI g = cm n ↔ g = n := by
  unfold cm
  by_cases c : n = 5
  · rw [if_pos c]
    exact ⟨fun z => absurd z (ni1 (by omega)), fun z => by omega⟩
  · rw [if_neg c]
    exact nI_eq (by omega) (by omega)
theorem al2 (h5 : aC A 0 ≤ 5) (lu : LU A S u) {j g : Nat} (hj : j < 4) (hg : g < aC A 0) (hz : tL (S2 A S u) j = 0) : al A (S2 A S u) j g = true ↔ (if g = u j then 1 else 0) < tT S (5 * j + g) := by
  have n5 : ¬ g = 5 := by omega
  unfold al
  rw [s2_T (lu.le5 h5) hj (by omega), Bool.or_eq_true, Bool.and_eq_true, decide_eq_true_eq, decide_eq_true_eq, decide_eq_true_eq]
  by_cases c : u j = g
  · rw [if_pos c, if_pos c.symm]; omega
  · rw [if_neg c, if_neg (fun z => c z.symm)]; omega
/-- the fuels that a house may light in the second hour, from g on, then none -/
theorem c_212 (hN : 2000 ≤ N) (hv : x + 37 ≤ v) (hT : WS A J S) (lu : LU A S u) {j n c : Nat} {w : Nat → Nat} {RR : Nat → Int32 → Int32 → Int32 → Int32 → PH → Option (Unit × PH)} (hj : j < 4) (tj : (aHs A f).testBit j = true) (hz : tL (S2 A S u) j = 0) (hw : ∀ i, j ≤ i → w i = 5)
    (hR : ∀ w' st h, (∀ i, j + 1 ≤ i → w' i = 5) → st.1 ≤ 9 → SV A S x v f w1 w2 h st → FRs A x f h u 4 → ∃ h', RR (x + 31) (nI (rkX (aHs A f) (j + 1))) (nI (sD A (S2 A S u) f (aWind A (tH S + 1)) w' 0 (j + 1))) (nI (sD A (S2 A S u) f (aWind A (tH S + 1)) w' 1 (j + 1))) (nI (c + bn w')) h = some ((), h') ∧ G2 A S x v f w1 w2 u c st (ws (noF A (S2 A S u) f) (al A (S2 A S u)) n (j + 1) w') h h') :
    ∀ (m g : Nat) (st : Nat × (Nat → Nat)) (h : PH), aC A 0 < m + g → g ≤ aC A 0 → st.1 ≤ 9 → SV A S x v f w1 w2 h st → FRs A x f h u 4 → ∃ h', f_X3_goSecond_212 RR N m (x + 31) (nI (rkX (aHs A f) j)) (nI (sD A (S2 A S u) f (aWind A (tH S + 1)) w 0 j)) (nI (sD A (S2 A S u) f (aWind A (tH S + 1)) w 1 j)) (nI (c + bn w)) (nI j) (cm (u j)) (nI g) h = some ((), h') ∧ G2 A S x v f w1 w2 u c st ((cl6 (al A (S2 A S u) j) (6 - g) g).flatMap (fun g => ws (noF A (S2 A S u) f) (al A (S2 A S u)) n (j + 1) (va_up w j g))) h h'
  | 0, g, st, h, h1, h2, _, _, _ => by omega
  | m + 1, g, st, h, h1, h2, hst, sv, fr => by
    obtain ⟨sp, ⟨r3, r4⟩, pv, hS, hC, ⟨q5, q6, q7, q8, q9, q10⟩, hh, hk⟩ := id sv
    have hW := pv.2.2.1
    have h5 := hW.1.1
    have hT2 := s2_W hW lu hT
    have hw5 := hw j (Nat.le_refl j)
    show ∃ h', f_X3_goSecond_212_b RR N (f_X3_goSecond_212 RR N m) (x + 31) _ _ _ _ _ _ _ h = _ ∧ _
    unfold f_X3_goSecond_212_b
    rw [ck_p sp.1, r3, rq_s, ck_p pv.1.1, vR_many pv.1, rq_s, ck_p (vK_many pv.1), vN_many pv.1, ck_p (by decide), pv.2.1.1 0 (by decide), ite_i (nI_leI (by omega) (by omega))]
    by_cases e : aC A 0 ≤ g
    · have eg : g = aC A 0 := by omega
      obtain ⟨h', t1, t2⟩ := hR w st h (fun i hi => hw i (by omega)) hst sv fr
      rw [rkX_s tj, sD_yes tj, sD_yes tj, gb_none hT2 hj hz hw5, gb_none hT2 hj hz hw5] at t1
      simp only [Nat.add_zero] at t1
      rw [if_pos e, nI_1, t1, cl_s]
      refine ⟨h', rfl, ?_⟩
      rw [show 6 - g = (5 - g) + 1 by omega, cl6_no (al5 A _ j) (5 - g) g (by omega) (fun f h1 h2 => al_hi (by omega) h2)]
      show G2 A S x v f w1 w2 u c st (ws _ _ n (j + 1) (va_up w j 5) ++ []) h h'
      rw [List.append_nil, va_self hw5]
      exact t2
    · have ecl : cl6 (al A (S2 A S u) j) (6 - g) g = if al A (S2 A S u) j g = true then g :: cl6 (al A (S2 A S u) j) (6 - (g + 1)) (g + 1) else cl6 (al A (S2 A S u) j) (6 - (g + 1)) (g + 1) := by
        rw [show 6 - g = (6 - (g + 1)) + 1 by omega]
        rfl
      have u5' := lu.le5 h5 j hj
      have ea := al2 h5 lu hj (show g < aC A 0 by omega) hz
      have tl := hT.2.2.1 (5 * j + g) (by omega)
      have go : ∀ lim : Nat, lim = (if g = u j then 1 else 0) → ∃ h', f_X3_goSecond_249 RR N (f_X3_goSecond_212 RR N m) (nI lim) (nI (tT S (5 * j + g))) (x + 31) (nI (rkX (aHs A f) j)) (nI (sD A (S2 A S u) f (aWind A (tH S + 1)) w 0 j)) (nI (sD A (S2 A S u) f (aWind A (tH S + 1)) w 1 j)) (nI (c + bn w)) (nI j) (cm (u j)) (nI g) h = some ((), h') ∧ G2 A S x v f w1 w2 u c st ((cl6 (al A (S2 A S u) j) (6 - g) g).flatMap (fun g => ws (noF A (S2 A S u) f) (al A (S2 A S u)) n (j + 1) (va_up w j g))) h h' := fun lim hl => by
        have hl1 : lim ≤ 1 := by rw [hl]; split <;> omega
        rw [← hl] at ea
        unfold f_X3_goSecond_249 f_X3_goSecond_303
        rw [ite_i (nI_leI (by omega) (by omega)), ecl]
        by_cases t : al A (S2 A S u) j g = true
        · obtain ⟨ha, a1, a2, a3⟩ := c_fresh (N := N) hN pv (f := g) (w := aWind A (tH S + 1)) (b := 0) (by omega) (aWind_le hW _) (by decide)
          have sva := sv.gx hv a2 a3
          have fra := fr.gx hv a2
          obtain ⟨hb, b1, b2, b3⟩ := c_fresh (N := N) hN a3 (f := g) (w := aWind A (tH S + 1)) (b := 1) (by omega) (aWind_le hW _) (by decide)
          have svb := sva.gx hv b2 b3
          have frb := fra.gx hv b2
          have a1 : f_X6_fresh N v (nI g) (nI (aWind A (tH S + 1))) 0 h = _ := a1
          have b1 : f_X6_fresh N v (nI g) (nI (aWind A (tH S + 1))) 1 ha = _ := b1
          obtain ⟨hc, c1, c2⟩ := hR (va_up w j g) st hb (fun i hi => by rw [va_ne (by omega)]; exact hw i (by omega)) hst svb frb
          rw [rkX_s tj, sD_yes tj, sD_yes tj, sD_up, sD_up, gb_up hz h5 (by omega), gb_up hz h5 (by omega), bn_up hj hw5 (by omega), ← Nat.add_assoc c] at c1
          obtain ⟨h', d1, d2⟩ := c_212 hN hv hT lu hj tj hz hw hR m (g + 1) _ hc (by omega) (by omega) (Nat.le_trans (scL_le _ _) hst) c2.2.1 c2.2.2
          refine ⟨h', ?_, ?_⟩
          · rw [if_neg (by have := ea.mp t; omega), ck_p sp.1, r3, rq_s, ck_p pv.1.1, q9, a1, cl_s, ck_p sva.1.1, sva.2.1.1, rq_s, ck_p a3.1.1, sva.2.2.2.2.2.1.2.2.2.2.1, b1, cl_s, ck_p svb.1.1, nI_1, nI_1, nI_1, nI_add, nI_add, c1, cl_s, bd_e]
            exact d1
          · rw [if_pos t, List.flatMap_cons]
            exact ((c2.pre (g2_gx b2)).pre (g2_gx a2)).app d2
        · have nt : ¬ lim < tT S (5 * j + g) := fun z => t (ea.mpr z)
          rw [if_pos (by omega), if_neg t, bd_e, nI_1]
          exact c_212 hN hv hT lu hj tj hz hw hR m (g + 1) st h (by omega) (by omega) hst sv fr
      rw [if_neg e, r4, rq_s, ck_p hS.1, c_stockOf hS hC hj (by omega), cl_s, ite_i (cmq_eq u5' (by omega))]
      by_cases q : g = u j
      · rw [if_pos q]
        exact go 1 (by rw [if_pos q])
      · rw [if_neg q]
        exact go 0 (by rw [if_neg q])
/-- a house in the second hour: it burns yet, or may light -/
theorem c_148 (hN : 2000 ≤ N) (hv : x + 37 ≤ v) (hT : WS A J S) (lu : LU A S u) {j n c F : Nat} {w : Nat → Nat} {RR : Nat → Int32 → Int32 → Int32 → Int32 → PH → Option (Unit × PH)} {s0 : Int32} (hj : j < 4) (tj : (aHs A f).testBit j = true) (hw : ∀ i, j ≤ i → w i = 5) (hF : F ≤ 1000) (hs : 0 < tL (S2 A S u) j → s0 = nI F + (-1)) (hg : 0 < tL (S2 A S u) j → ∀ w b, gv A (tF (S2 A S u) j) (tL (S2 A S u) j) w b = gv A F (tL (S2 A S u) j) w b)
    (hR : ∀ w' st h, (∀ i, j + 1 ≤ i → w' i = 5) → st.1 ≤ 9 → SV A S x v f w1 w2 h st → FRs A x f h u 4 → ∃ h', RR (x + 31) (nI (rkX (aHs A f) (j + 1))) (nI (sD A (S2 A S u) f (aWind A (tH S + 1)) w' 0 (j + 1))) (nI (sD A (S2 A S u) f (aWind A (tH S + 1)) w' 1 (j + 1))) (nI (c + bn w')) h = some ((), h') ∧ G2 A S x v f w1 w2 u c st (ws (noF A (S2 A S u) f) (al A (S2 A S u)) n (j + 1) w') h h')
    {st : Nat × (Nat → Nat)} {h : PH} (hst : st.1 ≤ 9) (sv : SV A S x v f w1 w2 h st) (fr : FRs A x f h u 4) : ∃ h', f_X3_goSecond_148 RR N (nI (tL (S2 A S u) j)) (x + 31) (nI (rkX (aHs A f) j)) (nI (sD A (S2 A S u) f (aWind A (tH S + 1)) w 0 j)) (nI (sD A (S2 A S u) f (aWind A (tH S + 1)) w 1 j)) (nI (c + bn w)) (nI j) (cm (u j)) s0 h = some ((), h') ∧ G2 A S x v f w1 w2 u c st (ws (noF A (S2 A S u) f) (al A (S2 A S u)) (n + 1) j w) h h' := by
  obtain ⟨sp, ⟨r3, r4⟩, pv, hS, hC, ⟨q5, q6, q7, q8, q9, q10⟩, hh, hk⟩ := id sv
  have hW := pv.2.2.1
  have h5 := hW.1.1
  have hT2 := s2_W hW lu hT
  have tl := (hT2.2.1 j hj).1
  unfold f_X3_goSecond_148
  rw [ite_i (show nI (tL (S2 A S u) j) ≤ 0 ↔ tL (S2 A S u) j ≤ 0 from nI_leI (b := 0) (by omega) (by decide))]
  by_cases z : tL (S2 A S u) j ≤ 0
  · have nb : (noF A (S2 A S u) f).testBit j = true := noF_b.mpr ⟨(aHs_b.mp tj).1, (aHs_b.mp tj).2, by omega⟩
    rw [if_pos z, ws_bit nb]
    exact c_212 hN hv hT lu hj tj (by omega) hw hR N 0 st h (by omega) (by omega) hst sv fr
  · have nb : ¬ (noF A (S2 A S u) f).testBit j = true := fun q => by have := (noF_b.mp q).2.2; omega
    obtain ⟨ha, a1, a2, a3⟩ := c_givesOf (N := N) hN pv (F := F) (l := tL (S2 A S u) j) (w := aWind A (tH S + 1)) (b := 0) hF tl (aWind_le hW _) (by decide)
    have sva := sv.gx hv a2 a3
    have fra := fr.gx hv a2
    obtain ⟨hb, b1, b2, b3⟩ := c_givesOf (N := N) hN a3 (F := F) (l := tL (S2 A S u) j) (w := aWind A (tH S + 1)) (b := 1) hF tl (aWind_le hW _) (by decide)
    have svb := sva.gx hv b2 b3
    have frb := fra.gx hv b2
    have a1 : f_X6_givesOf N v (nI F + (-1)) (nI (tL (S2 A S u) j)) (nI (aWind A (tH S + 1))) 0 h = _ := a1
    have b1 : f_X6_givesOf N v (nI F + (-1)) (nI (tL (S2 A S u) j)) (nI (aWind A (tH S + 1))) 1 ha = _ := b1
    obtain ⟨h', c1, c2⟩ := hR w st hb (fun i hi => hw i (by omega)) hst svb frb
    rw [rkX_s tj, sD_yes tj, sD_yes tj, gb_fire (by omega), gb_fire (by omega), hg (by omega), hg (by omega)] at c1
    rw [if_neg z, hs (by omega), ck_p sp.1, r3, rq_s, ck_p pv.1.1, q9, a1, cl_s, ck_p sva.1.1, sva.2.1.1, rq_s, ck_p a3.1.1, sva.2.2.2.2.2.1.2.2.2.2.1, b1, cl_s, ck_p svb.1.1, nI_1, nI_add, nI_add, c1, cl_s, ws_nob nb]
    exact ⟨h', rfl, (c2.pre (g2_gx b2)).pre (g2_gx a2)⟩
end SPB
