/-! The duty of spell, the class's side: the second hour, whole. -/
section SPC
variable {N x J v f : Nat} {A : AV} {S : AS} {w1 w2 : Int32} {u : Nat → Nat}
theorem kp_lt {st : Nat × (Nat → Nat)} {b : Nat} (h : b < st.1) : kp st u b = (b, u) := by
  unfold kp
  rw [if_neg (by omega)]
theorem tmT {b : Bool} (h : ¬ b = false) : b = true := by
  cases b
  · exact absurd rfl h
  · rfl
theorem c_go2 (hN : 2000 ≤ N) (hv : x + 37 ≤ v) (hT : WS A J S) (lu : LU A S u) {c : Nat} (hc : c ≤ 4) (hw2 : w2 = -1 ∨ ∃ k, k < aC A 3 ∧ w2 = nI k) : ∀ (m j d : Nat) (w : Nat → Nat) (st : Nat × (Nat → Nat)) (h : PH), m + j = 4 → m < d → (∀ i, j ≤ i → w i = 5) → st.1 ≤ 9 → SV A S x v f w1 w2 h st → FRs A x f h u 4 → ∃ h', f_X3_goSecond d N (x + 31) (nI (rkX (aHs A f) j)) (nI (sD A (S2 A S u) f (aWind A (tH S + 1)) w 0 j)) (nI (sD A (S2 A S u) f (aWind A (tH S + 1)) w 1 j)) (nI (c + bn w)) h = some ((), h') ∧ G2 A S x v f w1 w2 u c st (ws (noF A (S2 A S u) f) (al A (S2 A S u)) m j w) h h'
  | 0, j, d, w, st, h, hm, hd, hw, hst, sv, fr => by
    have ej : j = 4 := by omega
    subst ej
    obtain ⟨d', rfl⟩ : ∃ d', d = d' + 1 := ⟨d - 1, by omega⟩
    obtain ⟨sp, ⟨r3, r4⟩, pv, hS, hC, ⟨q5, q6, q7, q8, q9, q10⟩, hh, hk⟩ := id sv
    have hW := pv.2.2.1
    have hT2 := s2_W hW lu hT
    have bw := bn_le w
    have b0 := sD_bd (A := A) (S := S2 A S u) hW (f := f) (w := aWind A (tH S + 1)) (b := 0) (u := w) 4
    have b1 := sD_bd (A := A) (S := S2 A S u) hW (f := f) (w := aWind A (tH S + 1)) (b := 1) (u := w) 4
    have eH := s2_H (A := A) (S := S) u
    have x0 := sD_4 (A := A) (S := S2 A S u) hW (f := f) (b := 0) (u := w)
    have x1 := sD_4 (A := A) (S := S2 A S u) hW (f := f) (b := 1) (u := w)
    rw [eH] at x0 x1
    have r44 := rkX_le (aHs A f) 4
    obtain ⟨D0, e0⟩ : ∃ D0, D0 = sD A (S2 A S u) f (aWind A (tH S + 1)) w 0 4 := ⟨_, rfl⟩
    obtain ⟨D1, e1⟩ : ∃ D1, D1 = sD A (S2 A S u) f (aWind A (tH S + 1)) w 1 4 := ⟨_, rfl⟩
    rw [← e0] at b0 x0
    rw [← e1] at b1 x1
    rw [← e0, ← e1]
    show ∃ h', f_X3_goSecond_b (f_X3_goSecond d' N) N (x + 31) _ _ _ _ h = _ ∧ _
    unfold f_X3_goSecond_b
    rw [ck_p sp.1, q10, ite_i (nI_leI (by omega) (by omega))]
    by_cases c1 : st.1 ≤ c + bn w
    · rw [if_pos c1]
      refine ⟨h, rfl, G2.no (scL_no _ (fun z hz => Or.inl ?_)) sv fr⟩
      have := bn_mono (ws_Le hw hz)
      omega
    · rw [if_neg c1, q7, c_tooMuch sp r3 pv (by omega) (by omega) hw2, cl_s, ite_i yb0]
      by_cases t : tm A w2 D0 D1 = false
      · rw [if_pos t, ck_p sp.1, q5, if_neg (nI_nlt (Nat.le_refl _) (by omega)), r3, rq_s, ck_p pv.1.1, c_signOf (by omega) pv.1 pv.2.1 hW (by omega) (by omega), cl_s, ck_p sp.1, q7, x0, x1]
        show ∃ h', (if sbs A (S2 A S u) w f = w2 then _ else _) = _ ∧ _
        by_cases g : sbs A (S2 A S u) w f = w2
        · obtain ⟨h', k1, k2, k3, k4⟩ := c_keep (N := N) (c := c + bn w) hv sv fr
          rw [if_pos g, k1, cl_s]
          have e : scL A (S2 A S u) f w2 c (ws (noF A (S2 A S u) f) (al A (S2 A S u)) 0 4 w) st.1 = c + bn w := by
            show sc1 A (S2 A S u) f w2 c st.1 w = _
            unfold sc1
            rw [if_pos ⟨by omega, g⟩]
          refine ⟨h', rfl, k2.mono (fun z hz => by unfold g2P; omega), ?_, k4⟩
          rw [e, kp_lt (by omega)]
          exact k3
        · rw [if_neg g]
          refine ⟨h, rfl, G2.no ?_ sv fr⟩
          show sc1 A (S2 A S u) f w2 c st.1 w = _
          unfold sc1
          rw [if_neg (fun z => g z.2)]
      · have t := tmT t
        rw [if_neg (by rw [t]; decide)]
        exact ⟨h, rfl, G2.no (scL_no _ (fun z hz => Or.inr (tm_ws hW (Nat.le_refl 4) (by rw [e0, eH]) (by rw [e1, eH]) hw2 t z hz))) sv fr⟩
  | m + 1, j, d, w, st, h, hm, hd, hw, hst, sv, fr => by
    by_cases tj : (aHs A f).testBit j = true
    · have hj : j < 4 := by omega
      obtain ⟨d', rfl⟩ : ∃ d', d = d' + 1 := ⟨d - 1, by omega⟩
      obtain ⟨sp, ⟨r3, r4⟩, pv, hS, hC, ⟨q5, q6, q7, q8, q9, q10⟩, hh, hk⟩ := id sv
      have hW := pv.2.2.1
      have h5 := hW.1.1
      have hT2 := s2_W hW lu hT
      have bw := bn_le w
      have b0 := sD_bd (A := A) (S := S2 A S u) hW (f := f) (w := aWind A (tH S + 1)) (b := 0) (u := w) j
      have b1 := sD_bd (A := A) (S := S2 A S u) hW (f := f) (w := aWind A (tH S + 1)) (b := 1) (u := w) j
      have eH := s2_H (A := A) (S := S) u
      have r44 := rkX_le (aHs A f) 4
      have r4j := rkX_lt hj tj
      have hR : ∀ w' st h, (∀ i, j + 1 ≤ i → w' i = 5) → st.1 ≤ 9 → SV A S x v f w1 w2 h st → FRs A x f h u 4 → ∃ h', f_X3_goSecond d' N (x + 31) (nI (rkX (aHs A f) (j + 1))) (nI (sD A (S2 A S u) f (aWind A (tH S + 1)) w' 0 (j + 1))) (nI (sD A (S2 A S u) f (aWind A (tH S + 1)) w' 1 (j + 1))) (nI (c + bn w')) h = some ((), h') ∧ G2 A S x v f w1 w2 u c st (ws (noF A (S2 A S u) f) (al A (S2 A S u)) m (j + 1) w') h h' := fun w' st h k1 k2 k3 k4 => c_go2 hN hv hT lu hc hw2 m (j + 1) d' w' st h (by omega) (by omega) k1 k2 k3 k4
      have key : ∀ (F : Nat) (s0 : Int32), F ≤ 1000 → (0 < tL (S2 A S u) j → s0 = nI F + (-1)) → (0 < tL (S2 A S u) j → ∀ w b, gv A (tF (S2 A S u) j) (tL (S2 A S u) j) w b = gv A F (tL (S2 A S u) j) w b) → _ := fun F s0 hF hs hg => c_148 (N := N) (n := m) hN hv hT lu (RR := f_X3_goSecond d' N) hj tj hw hF hs hg hR hst sv fr
      show ∃ h', f_X3_goSecond_b (f_X3_goSecond d' N) N (x + 31) _ _ _ _ h = _ ∧ _
      unfold f_X3_goSecond_b
      rw [ck_p sp.1, q10, ite_i (nI_leI (by omega) (by omega))]
      by_cases c1 : st.1 ≤ c + bn w
      · rw [if_pos c1]
        refine ⟨h, rfl, G2.no (scL_no _ (fun z hz => Or.inl ?_)) sv fr⟩
        have := bn_mono (ws_Le hw hz)
        omega
      rw [if_neg c1, q7, c_tooMuch sp r3 pv (by omega) (by omega) hw2, cl_s, ite_i yb0]
      by_cases t : tm A w2 (sD A (S2 A S u) f (aWind A (tH S + 1)) w 0 j) (sD A (S2 A S u) f (aWind A (tH S + 1)) w 1 j) = false
      rotate_left
      · have t := tmT t
        rw [if_neg (by rw [t]; decide)]
        exact ⟨h, rfl, G2.no (scL_no _ (fun z hz => Or.inr (tm_ws hW (by omega) (by rw [eH]) (by rw [eH]) hw2 t z hz))) sv fr⟩
      have jr : inb (nI (rkX (aHs A f) j)) 4 := nI_ix (by omega) (by decide)
      have xr : ix (nI (rkX (aHs A f) j)) = rkX (aHs A f) j := ix_nI (by omega)
      have j4 : inb (nI j) 4 := nI_ix hj (by decide)
      have xj : ix (nI j) = j := ix_nI (by omega)
      have luj := lu j hj
      have eL := s2_L (A := A) (S := S) (u := u) hj
      have eG := s2_g (A := A) (S := S) (u := u) hj
      have tT := hT.2.1 j hj
      rw [if_pos t, ck_p sp.1, q5, if_pos (nI_lt r4j (by omega)), sp.2.1.1, rq_s, ck_p sp.2.2.1.1, sp.2.2.1.2, ck_p jr, xr, hh j hj tj, bd_e, sp.2.1.2.1, rq_s, ck_p sp.2.2.2.1.1, sp.2.2.2.1.2, ck_p jr, fr j hj tj, bd_e, r4, rq_s, ck_p hS.1, c_burns hS hC hT hj, cl_s, ite_i yes0]
      by_cases z : 0 < tL S j
      · have uj : u j = 5 := by
          rcases luj with e | ⟨-, -, e, -⟩
          · exact e
          · omega
        rw [if_pos uj] at eL
        rw [if_neg (fun q => q z), ck_p sp.1, r4, rq_s, ck_p hS.1, sR_fuel hS, rq_s, ck_p (sK_fuel hS), sN_fuel hS, ck_p j4, xj, hC.2.2.1 j hj]
        unfold f_X3_goSecond_97
        rw [ck_p sp.1, r4, rq_s, ck_p hS.1, c_burns hS hC hT hj, cl_s, ite_i yes0, if_neg (fun q => q z), ck_p sp.1, r4, rq_s, ck_p hS.1, sR_left hS, rq_s, ck_p (sK_left hS), sN_left hS, ck_p j4, xj, hC.2.2.2.1 j hj, show (1 : Int32) = nI 1 from rfl, pk_sub (show 1 ≤ tL S j by omega), ← eL]
        refine key (tF S j) _ (by omega) (fun _ => rfl) (fun q w b => ?_)
        rw [eG, eL, if_pos uj, if_pos uj, if_neg (by omega)]
      · rw [if_pos z]
        unfold f_X3_goSecond_97
        rw [ck_p sp.1, r4, rq_s, ck_p hS.1, c_burns hS hC hT hj, cl_s, ite_i yes0, if_pos z]
        by_cases uj : u j = 5
        · have cu5 : cm (u j) = -1 := by unfold cm; rw [if_pos uj]
          rw [if_pos uj] at eL
          rw [if_pos cu5, show (0 : Int32) = nI (tL (S2 A S u) j) by rw [eL, show tL S j - 1 = 0 by omega]; rfl]
          exact key 0 _ (by omega) (fun q => by omega) (fun q => by omega)
        · have ul := (luj.resolve_left uj).2.1
          have cu5 : cm (u j) = nI (u j) := by unfold cm; rw [if_neg uj]
          have hB := hW.2.1 _ ul
          rw [if_neg uj] at eL
          rw [if_neg (by rw [cu5]; exact ni1 (by omega)), ck_p sp.1, r3, rq_s, ck_p pv.1.1, vR_burns pv.1, rq_s, ck_p (vK_burns pv.1), vN_burns pv.1, cu5, ck_p (nI_ix (by omega) (by decide)), ix_nI (by omega), (pv.2.1.2.2.1 _ ul).2.2, show (1 : Int32) = nI 1 from rfl, pk_sub (show 1 ≤ aB A (u j) by omega), ← eL, ← cu5]
          refine key (u j + 1) _ (by omega) (fun _ => by rw [cu5, pk_m1]) (fun q w b => ?_)
          rw [eG, eL, if_neg uj, if_neg uj, if_neg (by omega)]
    · have nb : ¬ (noF A (S2 A S u) f).testBit j = true := fun z => tj (aHs_b.mpr ⟨(noF_b.mp z).1, (noF_b.mp z).2.1⟩)
      have key := c_go2 hN hv hT lu hc hw2 m (j + 1) d w st h (by omega) (by omega) (fun i hi => hw i (by omega)) hst sv fr
      rw [rkX_n tj, sD_no tj, sD_no tj] at key
      rw [ws_nob nb]
      exact key
end SPC
