/-! The duty of spell, the class's side: what a house can add at most. -/
/-- the greatest of b and what q says of those from g on, n of them, that p lets -/
def mxF (p : Nat → Bool) (q : Nat → Nat) : Nat → Nat → Nat → Nat
  | 0, _, b => b
  | n + 1, g, b => mxF p q n (g + 1) (if p g = true then max b (q g) else b)
/-- what a house can give in the first hour, in the second one -/
def mNw (A : AV) (S : AS) (w b i : Nat) : Nat := mxF (fun g => decide (tL S i = 0 ∧ 0 < tT S (5 * i + g))) (fun g => frc A w b g) (aC A 0) 0 (gv A (tF S i) (tL S i) w b)
def mNx (A : AV) (S : AS) (w b i : Nat) : Nat := mxF (fun g => decide (0 < tT S (5 * i + g))) (fun g => max (gv A (g + 1) (aB A g - 1) w b) (frc A w b g)) (aC A 0) 0 (gv A (tF S i) (tL S i - 1) w b)
/-- what the class's search looks at -/
def SV (A : AV) (S : AS) (x v f : Nat) (w1 w2 : Int32) (h : PH) : Prop := SP h (x + 31) ∧ (hR h (x + 31) 3 = some v ∧ hR h (x + 31) 4 = some (x + 3 + 1)) ∧ VA h v A ∧ ST h (x + 3 + 1) ∧ CS h (x + 3 + 1) S ∧ (hI h (x + 31) 5 = nI (rkX (aHs A f) 4) ∧ hI h (x + 31) 6 = w1 ∧ hI h (x + 31) 7 = w2 ∧ hI h (x + 31) 8 = nI (aWind A (tH S)) ∧ hI h (x + 31) 9 = nI (aWind A (tH S + 1))) ∧ ∀ j, j < 4 → (aHs A f).testBit j = true → hI h (x + 31 + 1) (rkX (aHs A f) j) = nI j
section SPN
variable {N x J v f i : Nat} {A : AV} {S : AS} {w1 w2 : Int32} {p : Nat → Bool} {q : Nat → Nat}
theorem mxF_b : ∀ n g b, b ≤ mxF p q n g b
  | 0, _, _ => Nat.le_refl _
  | n + 1, g, b => by
    refine Nat.le_trans ?_ (mxF_b n (g + 1) _)
    by_cases c : p g = true
    · rw [if_pos c]; omega
    · rw [if_neg c]; exact Nat.le_refl _
theorem mxF_q {k : Nat} (hk : p k = true) : ∀ n g b, g ≤ k → k < g + n → q k ≤ mxF p q n g b
  | 0, g, b, h1, h2 => by omega
  | n + 1, g, b, h1, h2 => by
    show q k ≤ mxF p q n (g + 1) (if p g = true then max b (q g) else b)
    by_cases e : g = k
    · refine Nat.le_trans ?_ (mxF_b n (g + 1) _)
      rw [e, if_pos hk]
      omega
    · exact mxF_q hk n (g + 1) _ (by omega) (by omega)
theorem mxF_s {n g b : Nat} : mxF p q (n + 1) g b = mxF p q n (g + 1) (if p g = true then max b (q g) else b) := rfl
theorem mxF_le {m : Nat} (hq : ∀ g, q g ≤ m) : ∀ n g b, b ≤ m → mxF p q n g b ≤ m
  | 0, _, _, h => h
  | n + 1, g, b, h => by
    have := hq g
    refine mxF_le hq n (g + 1) _ ?_
    by_cases c : p g = true
    · rw [if_pos c]; omega
    · rw [if_neg c]; exact h
theorem mNw_le (hW : WV A) (w b i : Nat) : mNw A S w b i ≤ 999 := mxF_le (fun g => frc_le hW _ _ _) _ _ _ (gv_le hW _ _ _ _)
theorem mNx_le (hW : WV A) (w b i : Nat) : mNx A S w b i ≤ 999 := mxF_le (fun g => by
  have := gv_le hW (g + 1) (aB A g - 1) w b
  have := frc_le hW w b g
  omega) _ _ _ (gv_le hW _ _ _ _)
theorem al_i {u : Nat → Nat} (h : al A S i (u i) = true) (n5 : u i ≠ 5) : u i < aC A 0 ∧ tL S i = 0 ∧ 0 < tT S (5 * i + u i) := by
  unfold al at h
  rw [Bool.or_eq_true, Bool.and_eq_true, decide_eq_true_eq, decide_eq_true_eq, decide_eq_true_eq] at h
  rcases h with e | e
  · exact absurd e n5
  · exact ⟨e.1, e.2.1, e.2.2⟩
theorem gb_lit {w b : Nat} {u : Nat → Nat} (hz : tL S i = 0) (h5 : u i ≠ 5) (hc : u i < aC A 0) : gb A S u w b i = frc A w b (u i) := by
  unfold gb frc
  rw [if_neg (by omega), if_pos hc]
theorem gb_mNw (hT : WS A J S) {w b : Nat} {u : Nat → Nat} (hi : i < 4) (h : u i = 5 ∨ al A S i (u i) = true) : gb A S u w b i ≤ mNw A S w b i := by
  by_cases z : 0 < tL S i
  · rw [gb_fire z]
    exact mxF_b _ _ _
  · by_cases e : u i = 5
    · rw [gb_none hT hi (by omega) e]
      exact Nat.zero_le _
    · obtain ⟨k1, k2, k3⟩ := al_i (h.resolve_left e) e
      rw [gb_lit k2 e k1]
      exact mxF_q (q := fun g => frc A w b g) (decide_eq_true ⟨k2, k3⟩) _ _ _ (Nat.zero_le _) (by omega)
theorem gb_mNx (hW : WV A) (hT : WS A J S) {w b : Nat} {u z : Nat → Nat} (lu : LU A S u) (hi : i < 4) (h : z i = 5 ∨ al A (S2 A S u) i (z i) = true) : gb A (S2 A S u) z w b i ≤ mNx A S w b i := by
  have h5 := hW.1.1
  have hT2 := s2_W hW lu hT
  have luj := lu i hi
  have u5' : u i ≤ 5 := by rcases luj with e | e <;> omega
  by_cases y : 0 < tL (S2 A S u) i
  · rw [gb_fire y, s2_g hi]
    by_cases c : (if u i = 5 then tL S i else aB A (u i)) ≤ 1
    · rw [if_pos c]
      exact Nat.zero_le _
    · rw [if_neg c]
      by_cases e : u i = 5
      · rw [if_pos e, if_pos e]
        exact mxF_b _ _ _
      · obtain ⟨k0, k1, k2, k3⟩ := luj.resolve_left e
        rw [if_neg e, if_neg e]
        have := mxF_q (p := fun g => decide (0 < tT S (5 * i + g))) (q := fun g => max (gv A (g + 1) (aB A g - 1) w b) (frc A w b g)) (k := u i) (decide_eq_true k3) (aC A 0) 0 (gv A (tF S i) (tL S i - 1) w b) (Nat.zero_le _) (by omega)
        exact Nat.le_trans (Nat.le_max_left _ _) this
  · by_cases e : z i = 5
    · rw [gb_none hT2 hi (by omega) e]
      exact Nat.zero_le _
    · obtain ⟨k1, k2, k3⟩ := al_i (h.resolve_left e) e
      rw [gb_lit k2 e k1]
      have tl : tT (S2 A S u) (5 * i + z i) ≤ tT S (5 * i + z i) := by
        rw [s2_T (fun k hk => by rcases lu k hk with q | q <;> omega) hi (by omega)]
        split <;> omega
      have := mxF_q (p := fun g => decide (0 < tT S (5 * i + g))) (q := fun g => max (gv A (g + 1) (aB A g - 1) w b) (frc A w b g)) (k := z i) (decide_eq_true (show 0 < tT S (5 * i + z i) by omega)) (aC A 0) 0 (gv A (tF S i) (tL S i - 1) w b) (Nat.zero_le _) (by omega)
      exact Nat.le_trans (Nat.le_max_right _ _) this
theorem SP.sm {h h' : PH} {k : Nat} (s : Sm h h') (p : SP h k) : SP h' k := by
  unfold SP IA at p ⊢
  rw [s.1, s.2.1, s.2.2.1]
  exact p
theorem SV.gx {h h' : PH} (hv : x + 37 ≤ v) (g : Gx v h h') (hV : VA h' v A) (p : SV A S x v f w1 w2 h) : SV A S x v f w1 w2 h' := by
  obtain ⟨p1, ⟨p2, p3⟩, p4, p5, p6, p7, p8⟩ := p
  have d : Dj (x + 3 + 1) v := by unfold Dj; omega
  refine ⟨p1.sm g.1, ⟨by rw [g.1.2.2.1]; exact p2, by rw [g.1.2.2.1]; exact p3⟩, hV, p5.sm g.1, p6.gx d g, ?_, ?_⟩
  · rw [g.2.2.2 (x + 31) (by omega) (by omega) (by omega)]; exact p7
  · rw [g.2.2.2 (x + 31 + 1) (by omega) (by omega) (by omega)]; exact p8
/-- other cells of the search change -/
theorem SV.row {h : PH} {a r : Nat} {c : Int32} (hv : x + 37 ≤ v) (ha : a = x + 31 + 2 ∨ a = x + 31 + 3) (p : SV A S x v f w1 w2 h) : SV A S x v f w1 w2 (sI h a r c) := by
  obtain ⟨p1, ⟨p2, p3⟩, p4, p5, p6, p7, p8⟩ := p
  have E : Ex (fun z => z = a) h (sI h a r c) := Ex.sI rfl
  refine ⟨p1.sm Sm.sI, ⟨p2, p3⟩, p4.ex E (fun z z1 z2 => by omega), p5.sm Sm.sI, p6.ex E (fun z z1 z2 => by omega), ?_, ?_⟩
  · rw [E.2.2.2 (x + 31) (by omega)]; exact p7
  · rw [E.2.2.2 (x + 31 + 1) (by omega)]; exact p8
theorem c_mn34 (hN : 2000 ≤ N) (hv : x + 37 ≤ v) (hT : WS A J S) (hi : i < 4) {b : Nat} (hb : b < 2) : ∀ (n g best : Nat) (h : PH), aC A 0 < n + g → g ≤ aC A 0 → best ≤ 999 → SV A S x v f w1 w2 h → ∃ h', f_X3_mostNow_34 N n (x + 31) (nI i) (nI b) (nI best) (nI g) h = some (nI (mxF (fun g => decide (tL S i = 0 ∧ 0 < tT S (5 * i + g))) (fun g => frc A (aWind A (tH S)) b g) (aC A 0 - g) g best), h') ∧ Gx v h h' ∧ VA h' v A
  | 0, g, best, h, h1, h2, _, _ => by omega
  | n + 1, g, best, h, h1, h2, hb9, sv => by
    obtain ⟨sp, ⟨r3, r4⟩, pv, hS, hC, ⟨q5, q6, q7, q8, q9⟩, hh⟩ := id sv
    have hW := pv.2.2.1
    have h5 := hW.1.1
    show ∃ h', f_X3_mostNow_34_b N (f_X3_mostNow_34 N n) (x + 31) _ _ _ _ h = _ ∧ _
    unfold f_X3_mostNow_34_b f_X3_mostNow_80
    rw [ck_p sp.1, r3, rq_s, ck_p pv.1.1, vR_many pv.1, rq_s, ck_p (vK_many pv.1), vN_many pv.1, ck_p (by decide), pv.2.1.1 0 (by decide), ite_i (nI_leI (by omega) (by omega))]
    by_cases e : aC A 0 ≤ g
    · rw [if_pos e, show aC A 0 - g = 0 by omega]
      exact ⟨h, rfl, Gx.rf, pv⟩
    · rw [if_neg e, r4, rq_s, ck_p hS.1, c_canLight hS hC hT hi (by omega), cl_s, ite_i yes0, show aC A 0 - g = (aC A 0 - (g + 1)) + 1 by omega]
      rw [mxF_s]
      by_cases t : tL S i = 0 ∧ 0 < tT S (5 * i + g)
      · obtain ⟨ha, a1, a2, a3⟩ := c_fresh (N := N) hN pv (f := g) (w := aWind A (tH S)) (b := b) (by omega) (aWind_le hW _) hb
        have fl := frc_le hW (aWind A (tH S)) b g
        obtain ⟨h', t1, t2, t3⟩ := c_mn34 hN hv hT hi hb n (g + 1) (max best (frc A (aWind A (tH S)) b g)) ha (by omega) (by omega) (by omega) (sv.gx hv a2 a3)
        rw [if_neg (fun z => z t), ck_p sp.1, r3, rq_s, ck_p pv.1.1, q8, a1, cl_s, maxI (by omega) (by omega), bd_e, bd_e, nI_1, decide_eq_true t, if_pos rfl]
        exact ⟨h', t1, a2.trans t2, t3⟩
      · rw [if_pos t, bd_e, nI_1, decide_eq_false t, if_neg (by decide)]
        exact c_mn34 hN hv hT hi hb n (g + 1) best h (by omega) (by omega) hb9 sv
theorem c_mostNow (hN : 2000 ≤ N) (hv : x + 37 ≤ v) (hT : WS A J S) (hi : i < 4) {b : Nat} (hb : b < 2) {h : PH} (sv : SV A S x v f w1 w2 h) : ∃ h', f_X3_mostNow N (x + 31) (nI i) (nI b) h = some (nI (mNw A S (aWind A (tH S)) b i), h') ∧ Gx v h h' ∧ VA h' v A := by
  obtain ⟨sp, ⟨r3, r4⟩, pv, hS, hC, ⟨q5, q6, q7, q8, q9⟩, hh⟩ := id sv
  have hW := pv.2.2.1
  have h5 := hW.1.1
  have tT := hT.2.1 i hi
  have j4 : inb (nI i) 4 := nI_ix hi (by decide)
  have xj : ix (nI i) = i := ix_nI (by omega)
  obtain ⟨ha, a1, a2, a3⟩ := c_givesOf (N := N) hN pv (F := tF S i) (l := tL S i) (w := aWind A (tH S)) (b := b) (by omega) tT.1 (aWind_le hW _) hb
  obtain ⟨h', t1, t2, t3⟩ := c_mn34 (N := N) hN hv hT hi hb N 0 (gv A (tF S i) (tL S i) (aWind A (tH S)) b) ha (by omega) (by omega) (gv_le hW _ _ _ _) (sv.gx hv a2 a3)
  refine ⟨h', ?_, a2.trans t2, t3⟩
  unfold f_X3_mostNow
  rw [ck_p sp.1, r3, rq_s, r4, rq_s, ck_p hS.1, sR_fuel hS, rq_s, ck_p (sK_fuel hS), sN_fuel hS, ck_p j4, rq_s, ck_p hS.1, sR_left hS, rq_s, ck_p (sK_left hS), sN_left hS, ck_p j4, ck_p pv.1.1, xj, hC.2.2.1 i hi, hC.2.2.2.1 i hi, q8, a1, cl_s]
  exact t1
theorem c_mx36 (hN : 2000 ≤ N) (hv : x + 37 ≤ v) (hT : WS A J S) (hi : i < 4) {b : Nat} (hb : b < 2) : ∀ (n g best : Nat) (h : PH), aC A 0 < n + g → g ≤ aC A 0 → best ≤ 999 → SV A S x v f w1 w2 h → ∃ h', f_X3_mostNext_36 N n (x + 31) (nI i) (nI b) (nI best) (nI g) h = some (nI (mxF (fun g => decide (0 < tT S (5 * i + g))) (fun g => max (gv A (g + 1) (aB A g - 1) (aWind A (tH S + 1)) b) (frc A (aWind A (tH S + 1)) b g)) (aC A 0 - g) g best), h') ∧ Gx v h h' ∧ VA h' v A
  | 0, g, best, h, h1, h2, _, _ => by omega
  | n + 1, g, best, h, h1, h2, hb9, sv => by
    obtain ⟨sp, ⟨r3, r4⟩, pv, hS, hC, ⟨q5, q6, q7, q8, q9⟩, hh⟩ := id sv
    have hW := pv.2.2.1
    have h5 := hW.1.1
    show ∃ h', f_X3_mostNext_36_b N (f_X3_mostNext_36 N n) (x + 31) _ _ _ _ h = _ ∧ _
    unfold f_X3_mostNext_36_b f_X3_mostNext_115
    rw [ck_p sp.1, r3, rq_s, ck_p pv.1.1, vR_many pv.1, rq_s, ck_p (vK_many pv.1), vN_many pv.1, ck_p (by decide), pv.2.1.1 0 (by decide), ite_i (nI_leI (by omega) (by omega))]
    by_cases e : aC A 0 ≤ g
    · rw [if_pos e, show aC A 0 - g = 0 by omega]
      exact ⟨h, rfl, Gx.rf, pv⟩
    · have tl := hT.2.2.1 (5 * i + g) (by omega)
      have hB := hW.2.1 g (by omega)
      rw [if_neg e, r4, rq_s, ck_p hS.1, c_stockOf hS hC hi (by omega), cl_s, ite_i (show nI (tT S (5 * i + g)) ≤ 0 ↔ tT S (5 * i + g) ≤ 0 from nI_leI (b := 0) (by omega) (by decide)), show aC A 0 - g = (aC A 0 - (g + 1)) + 1 by omega]
      rw [mxF_s]
      by_cases t : 0 < tT S (5 * i + g)
      · obtain ⟨ha, a1, a2, a3⟩ := c_givesOf (N := N) hN pv (F := g + 1) (l := aB A g - 1) (w := aWind A (tH S + 1)) (b := b) (by omega) (by omega) (aWind_le hW _) hb
        rw [pk_m1] at a1
        have sva := sv.gx hv a2 a3
        obtain ⟨hb', b1, b2, b3⟩ := c_fresh (N := N) hN a3 (f := g) (w := aWind A (tH S + 1)) (b := b) (by omega) (aWind_le hW _) hb
        have fl := frc_le hW (aWind A (tH S + 1)) b g
        have gl := gv_le hW (g + 1) (aB A g - 1) (aWind A (tH S + 1)) b
        obtain ⟨h', t1, t2, t3⟩ := c_mx36 hN hv hT hi hb n (g + 1) (max best (max (gv A (g + 1) (aB A g - 1) (aWind A (tH S + 1)) b) (frc A (aWind A (tH S + 1)) b g))) hb' (by omega) (by omega) (by omega) (sva.gx hv b2 b3)
        rw [if_neg (show ¬ tT S (5 * i + g) ≤ 0 by omega), ck_p sp.1, r3, rq_s, rq_s, ck_p pv.1.1, vR_burns pv.1, rq_s, ck_p (vK_burns pv.1), vN_burns pv.1, ck_p (nI_ix (by omega) (by decide)), ck_p pv.1.1, ix_nI (by omega), (pv.2.1.2.2.1 g (by omega)).2.2, show (1 : Int32) = nI 1 from rfl, pk_sub (show 1 ≤ aB A g by omega), q9, a1, cl_s, ck_p sva.1.1, sva.2.1.1, rq_s, ck_p a3.1.1, sva.2.2.2.2.2.1.2.2.2.2, b1, cl_s, maxI (a := gv A (g + 1) (aB A g - 1) (aWind A (tH S + 1)) b) (by omega) (by omega), maxI (by omega) (by omega), bd_e, bd_e, show nI g + nI 1 = nI (g + 1) from nI_add g 1, decide_eq_true t, if_pos rfl]
        exact ⟨h', t1, (a2.trans b2).trans t2, t3⟩
      · rw [if_pos (show tT S (5 * i + g) ≤ 0 by omega), bd_e, nI_1, decide_eq_false t, if_neg (by decide)]
        exact c_mx36 hN hv hT hi hb n (g + 1) best h (by omega) (by omega) hb9 sv
theorem c_mostNext (hN : 2000 ≤ N) (hv : x + 37 ≤ v) (hT : WS A J S) (hi : i < 4) {b : Nat} (hb : b < 2) {h : PH} (sv : SV A S x v f w1 w2 h) : ∃ h', f_X3_mostNext N (x + 31) (nI i) (nI b) h = some (nI (mNx A S (aWind A (tH S + 1)) b i), h') ∧ Gx v h h' ∧ VA h' v A := by
  obtain ⟨sp, ⟨r3, r4⟩, pv, hS, hC, ⟨q5, q6, q7, q8, q9⟩, hh⟩ := id sv
  have hW := pv.2.2.1
  have h5 := hW.1.1
  have tT := hT.2.1 i hi
  have j4 : inb (nI i) 4 := nI_ix hi (by decide)
  have xj : ix (nI i) = i := ix_nI (by omega)
  obtain ⟨ha, a1, a2, a3⟩ : ∃ ha, f_X6_givesOf N v (nI (tF S i) + (-1)) (nI (tL S i) - (1 : Int32)) (nI (aWind A (tH S + 1))) (nI b) h = some (nI (gv A (tF S i) (tL S i - 1) (aWind A (tH S + 1)) b), ha) ∧ Gx v h ha ∧ VA ha v A := by
    by_cases z : tL S i = 0
    · refine ⟨h, ?_, Gx.rf, pv⟩
      have z0 : tF S i = 0 := tT.2.2.1.mp z
      unfold f_X6_givesOf gv
      rw [z0, if_pos (show nI 0 + (-1 : Int32) < 0 by decide), if_pos (Or.inl rfl)]
      rfl
    · have := c_givesOf (N := N) hN pv (F := tF S i) (l := tL S i - 1) (w := aWind A (tH S + 1)) (b := b) (by omega) (by omega) (aWind_le hW _) hb
      rw [show (1 : Int32) = nI 1 from rfl, pk_sub (show 1 ≤ tL S i by omega)]
      exact this
  obtain ⟨h', t1, t2, t3⟩ := c_mx36 (N := N) hN hv hT hi hb N 0 (gv A (tF S i) (tL S i - 1) (aWind A (tH S + 1)) b) ha (by omega) (by omega) (gv_le hW _ _ _ _) (sv.gx hv a2 a3)
  refine ⟨h', ?_, a2.trans t2, t3⟩
  unfold f_X3_mostNext
  rw [ck_p sp.1, r3, rq_s, r4, rq_s, ck_p hS.1, sR_fuel hS, rq_s, ck_p (sK_fuel hS), sN_fuel hS, ck_p j4, rq_s, ck_p hS.1, sR_left hS, rq_s, ck_p (sK_left hS), sN_left hS, ck_p j4, ck_p pv.1.1, xj, hC.2.2.1 i hi, hC.2.2.2.1 i hi, q9, a1, cl_s]
  exact t1
end SPN
