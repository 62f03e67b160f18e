/-! The duty of years. -/
def nx (g : Int64) : Int64 := ((g * (1103515245 : Int64)) + (12345 : Int64)) - ((g * (1103515245 : Int64)) + (12345 : Int64)) / (2147483648 : Int64) * (2147483648 : Int64)
def df (F : Nat) (g : Int64) : Int32 := ((g / (65536 : Int64)) - (g / (65536 : Int64)) / ((nI F + (1 : Int32)).toInt64) * ((nI F + (1 : Int32)).toInt64)).toInt32
/-- a draw lights a fuel of a house, if it can -/
def yL (A : AV) (S : AS) (i : Nat) (f : Int32) : AS := if (¬ f < 0 ∧ ¬ nI (aC A 0) ≤ f) ∧ tL S i = 0 ∧ 0 < tT S (5 * i + ix f) then sLight A S i (ix f) else S
def yH (A : AV) (S : AS) (g : Int64) : Nat → AS × Int64
  | 0 => (S, g)
  | i + 1 => (yL A (yH A S g i).1 i (df (aC A 0) (nx (yH A S g i).2)), nx (yH A S g i).2)
def yM (A : AV) (p : AS × Int64) : AS × Int64 := if 0 < aC A 0 then yH A p.1 p.2 (aC A 2) else p
def yT (A : AV) (S : AS) (g : Int64) : Nat → AS × Int64
  | 0 => (S, g)
  | t + 1 => (sPass A (yM A (yT A S g t)).1, (yM A (yT A S g t)).2)
def yR (A : AV) (S : AS) (g : Int64) : Nat → Nat
  | 0 => 0
  | t + 1 => yR A S g t + sgs A (yM A (yT A S g t)).1 (aC A 1)
def yC (A : AV) (S : AS) (g : Int64) : Nat → Nat
  | 0 => 0
  | t + 1 => yC A S g t + came A (yM A (yT A S g t)).1 (aC A 1)
section YA
variable {A : AV} {S : AS} {J : Nat}
theorem WSyL (hW : WV A) (p : WS A J S) {i : Nat} (hi : i < aC A 2) (f : Int32) : WS A J (yL A S i f) := by
  have h5 := hW.1.1
  unfold yL
  split
  · rename_i c
    obtain ⟨j, hj, rfl⟩ := told (by omega) c.1
    rw [ix_nI (by omega)]
    exact p.light hW hi hj
  · exact p
theorem WSyH (hW : WV A) (p : WS A J S) {g : Int64} : ∀ i, i ≤ aC A 2 → WS A J (yH A S g i).1
  | 0, _ => p
  | i + 1, hi => WSyL hW (WSyH hW p i (by omega)) (by omega) _
theorem WSyM (hW : WV A) {p : AS × Int64} (q : WS A J p.1) : WS A J (yM A p).1 := by
  unfold yM
  split
  · exact WSyH hW q _ (Nat.le_refl _)
  · exact q
theorem WSyT (hW : WV A) (p : WS A J S) {g : Int64} : ∀ t, WS A (J + t) (yT A S g t).1
  | 0 => p
  | t + 1 => (WSyM hW (WSyT hW p t)).pass
theorem yL_S {i : Nat} {f : Int32} : tS (yL A S i f) = tS S := by
  unfold yL
  split <;> rfl
theorem yH_S {g : Int64} : ∀ i, tS (yH A S g i).1 = tS S
  | 0 => rfl
  | i + 1 => by
    show tS (yL A _ _ _) = _
    rw [yL_S, yH_S i]
theorem yM_S {p : AS × Int64} : tS (yM A p).1 = tS p.1 := by
  unfold yM
  split
  · exact yH_S _
  · rfl
theorem soot_pass (hW : WV A) (p : WS A J S) : fb_sm (tS (sPass A S)) 3 = fb_sm (tS S) 3 + came A S (aC A 1) := by
  have h3 := hW.1.2.1
  have t : ∀ f, tS (sPass A S) f = if f < aC A 1 then min (tS S f + soX A S (aHs A f)) 9999 else tS S f := fun f => rfl
  have b0 := p.2.2.2.2 0 (by decide)
  have b1 := p.2.2.2.2 1 (by decide)
  have b2 := p.2.2.2.2 2 (by decide)
  show 0 + tS (sPass A S) 0 + tS (sPass A S) 1 + tS (sPass A S) 2 = 0 + tS S 0 + tS S 1 + tS S 2 + came A S (aC A 1)
  rw [t 0, t 1, t 2]
  rcases (show aC A 1 = 0 ∨ aC A 1 = 1 ∨ aC A 1 = 2 ∨ aC A 1 = 3 by omega) with e | e | e | e
  · rw [e, if_neg (by decide), if_neg (by decide), if_neg (by decide)]
    show _ = _ + 0
    omega
  · rw [e, if_pos (by decide), if_neg (by decide), if_neg (by decide)]
    show _ = _ + (0 + (min (tS S 0 + soX A S (aHs A 0)) 9999 - tS S 0))
    omega
  · rw [e, if_pos (by decide), if_pos (by decide), if_neg (by decide)]
    show _ = _ + (0 + (min (tS S 0 + soX A S (aHs A 0)) 9999 - tS S 0) + (min (tS S 1 + soX A S (aHs A 1)) 9999 - tS S 1))
    omega
  · rw [e, if_pos (by decide), if_pos (by decide), if_pos (by decide)]
    show _ = _ + (0 + (min (tS S 0 + soX A S (aHs A 0)) 9999 - tS S 0) + (min (tS S 1 + soX A S (aHs A 1)) 9999 - tS S 1) + (min (tS S 2 + soX A S (aHs A 2)) 9999 - tS S 2))
    omega
theorem yC_sum (hW : WV A) (p : WS A J S) {g : Int64} : ∀ t, fb_sm (tS (yT A S g t).1) 3 = fb_sm (tS S) 3 + yC A S g t
  | 0 => rfl
  | t + 1 => by
    have ih := yC_sum hW p (g := g) t
    have q := soot_pass hW (WSyM hW (WSyT hW p (g := g) t))
    rw [yM_S] at q
    show fb_sm (tS (sPass A (yM A (yT A S g t)).1)) 3 = _ + (yC A S g t + came A (yM A (yT A S g t)).1 (aC A 1))
    rw [q, ih]
    omega
theorem fp1 {F : Nat} (hF : F ≤ 5) : ¬ (nI F + (1 : Int32)).toInt64 = 0 := by
  have : ∀ F, F ≤ 5 → ¬ (nI F + (1 : Int32)).toInt64 = 0 := by decide +kernel
  exact this F hF
def yA (A : AV) (S : AS) (g : Int64) (T wh : Nat) : Int32 := if wh = 0 then nI (yR A S g T) else if wh = 1 then nI (yC A S g T) else nI (fb_sm (tT (yT A S g T).1) 20)
end YA
section YC
variable {N x : Nat} {A : AV}
theorem c_lightN {h : PH} {S : AS} {s v J : Nat} (hS : ST h s) (hC : CS h s S) (hT : WS A J S) {i : Nat} (hi : i < 4) {f : Int32} (hf : f < 0) : f_X4_light N s v (nI i) f h = some (0, h) := by
  have e : f_X4_canLight N s (nI i) f h = some (0, h) := by
    unfold f_X4_canLight
    rw [ck_p hS.1, c_burns hS hC hT hi, cl_s, ite_i yes0]
    by_cases c : 0 < tL S i
    · rw [if_neg (fun z => z c)]
    · rw [if_pos c, ck_p hS.1, c_stockOf_out (Or.inr (Or.inr (Or.inl hf))), cl_s, if_pos (by decide)]
  unfold f_X4_light
  rw [ck_p hS.1, e, cl_s, if_pos rfl]
theorem c_db (hN : 2000 ≤ N) {v w J : Nat} {S : AS} {g : Int64} : ∀ (n i : Nat) (h : PH), aC A 2 < n + i → i ≤ aC A 2 → OB h x v w → VA h v A → CS h (x + 16) (yH A S g i).1 → WS A J S → ∃ h', f_X10_dreamBurns_23 N n x (nI (aC A 0)) (yH A S g i).2 (nI i) h = some ((yH A S g (aC A 2)).2, h') ∧ Ex (inS (x + 16)) h h' ∧ CS h' (x + 16) (yH A S g (aC A 2)).1
  | 0, i, h, h1, h2, _, _, _, _ => by omega
  | n + 1, i, h, h1, h2, ob, p, cS, ws => by
    have hW := p.2.2.1
    have h5 := hW.1.1
    have h4 := hW.1.2.2.1
    have vw := ob.1
    have dj : Dj (x + 16) v := by unfold Dj; omega
    show ∃ h', f_X10_dreamBurns_23_b N (f_X10_dreamBurns_23 N n) x _ _ _ h = _ ∧ _
    unfold f_X10_dreamBurns_23_b
    rw [ck_p ob.k9, ob.R8, rq_s, ck_p p.1.1, vR_many p.1, rq_s, ck_p (vK_many p.1), vN_many p.1, ck_p (by decide), p.2.1.1 2 (by decide), ite_i (nI_leI (by omega) (by omega))]
    by_cases c : aC A 2 ≤ i
    · rw [if_pos c, show i = aC A 2 by omega]
      rw [show i = aC A 2 by omega] at cS
      exact ⟨h, rfl, Ex.rf, cS⟩
    · have wsi := WSyH hW ws (g := g) i h2
      rw [if_neg c, bd_e, ck_p (fp1 h5), bd_e]
      unfold f_X10_dreamBurns_89
      -- the house is left out, or lights
      have go : ∀ g1, OB g1 x v w → VA g1 v A → Ex (inS (x + 16)) h g1 → CS g1 (x + 16) (yH A S g (i + 1)).1 → ∃ h', f_X10_dreamBurns_23 N n x (nI (aC A 0)) (nx (yH A S g i).2) (nI (i + 1)) g1 = some ((yH A S g (aC A 2)).2, h') ∧ Ex (inS (x + 16)) h h' ∧ CS h' (x + 16) (yH A S g (aC A 2)).1 := fun g1 ob1 p1 e1 c1 => by
        obtain ⟨h', r1, r2, r3⟩ := c_db hN (S := S) (g := g) n (i + 1) g1 (by omega) (by omega) ob1 p1 c1 ws
        exact ⟨h', r1, e1.trans r2, r3⟩
      have ey : (yH A S g (i + 1)).1 = yL A (yH A S g i).1 i (df (aC A 0) (nx (yH A S g i).2)) := rfl
      rw [ey] at go
      rw [show ((((yH A S g i).2 * (1103515245 : Int64)) + (12345 : Int64)) - (((yH A S g i).2 * (1103515245 : Int64)) + (12345 : Int64)) / (2147483648 : Int64) * (2147483648 : Int64)) = nx (yH A S g i).2 from rfl, show ((nx (yH A S g i).2 / (65536 : Int64)) - (nx (yH A S g i).2 / (65536 : Int64)) / ((nI (aC A 0) + (1 : Int32)).toInt64) * ((nI (aC A 0) + (1 : Int32)).toInt64)).toInt32 = df (aC A 0) (nx (yH A S g i).2) from rfl]
      generalize df (aC A 0) (nx (yH A S g i).2) = f at go
      unfold yL at go
      simp only [bd_e, nI_1]
      by_cases c2 : nI (aC A 0) ≤ f
      · rw [if_pos c2]
        rw [if_neg (fun z => z.1.2 c2)] at go
        exact go h ob p Ex.rf cS
      · rw [if_neg c2, ob.R4, rq_s, rq_s, ck_p ob.dr.1]
        by_cases c3 : f < 0
        · rw [c_lightN ob.dr cS wsi (by omega) c3, cl_s]
          rw [if_neg (fun z => z.1.1 c3)] at go
          exact go h ob p Ex.rf cS
        · obtain ⟨j, hj, rfl⟩ := told (by omega) ⟨c3, c2⟩
          rw [ix_nI (by omega)] at go
          obtain ⟨h1', r1, r2, r3⟩ := c_light (N := N) dj p ob.dr cS wsi (i := i) (f := j) (by omega) hj
          rw [r1, cl_s]
          refine go h1' (ob.shp (x := x) r2.shp) (p.ex r2 (fun z z1 z2 z3 => by unfold inS at z3; omega)) r2 ?_
          by_cases c4 : tL (yH A S g i).1 i = 0 ∧ 0 < tT (yH A S g i).1 (5 * i + j)
          · rw [if_pos c4] at r3
            rw [if_pos ⟨toldI (by omega) hj, c4⟩]
            exact r3
          · rw [if_neg c4] at r3
            rw [if_neg (fun z => c4 z.2)]
            exact r3
theorem c_dreamBurns (hN : 2000 ≤ N) {v w J : Nat} {p : AS × Int64} {h : PH} (ob : OB h x v w) (pv : VA h v A) (cS : CS h (x + 16) p.1) (ws : WS A J p.1) : ∃ h', f_X10_dreamBurns N x p.2 h = some ((yM A p).2, h') ∧ Ex (inS (x + 16)) h h' ∧ CS h' (x + 16) (yM A p).1 := by
  have hW := pv.2.2.1
  have h5 := hW.1.1
  have h4 := hW.1.2.2.1
  unfold f_X10_dreamBurns yM
  rw [ck_p ob.k9, ob.R8, rq_s, ck_p pv.1.1, vR_many pv.1, rq_s, ck_p (vK_many pv.1), vN_many pv.1, ck_p (by decide), pv.2.1.1 0 (by decide), bd_e]
  by_cases c : 0 < aC A 0
  · rw [if_pos (show (1 : Int32) ≤ nI (aC A 0) from nI_le (a := 1) c (by omega)), if_pos c]
    exact c_db (S := p.1) (g := p.2) hN N 0 h (by omega) (by omega) ob pv cS ws
  · rw [if_neg (show ¬ (1 : Int32) ≤ nI (aC A 0) from nI_ge (b := 1) (by omega) (by decide)), if_neg c]
    exact ⟨h, rfl, Ex.rf, cS⟩
theorem c_y57 (hN : 2000 ≤ N) {v w J T wh : Nat} {S : AS} {g : Int64} (hT : T ≤ 99) (hJ : J < 512) (hwh : wh < 3) (ws : WS A J S) : ∀ (n t : Nat) (h : PH), T < n + t → t ≤ T → OB h x v w → VA h v A → CS h (x + 3 + 1) S → CS h (x + 16) (yT A S g t).1 → ∃ h', f_X10_years_57 N n x (nI T) (nI wh) (yT A S g t).2 (nI (yR A S g t)) (nI t) h = some (yA A S g T wh, h') ∧ Ex (inSV (x + 16) v) h h' ∧ VA h' v A
  | 0, t, h, h1, h2, _, _, _, _ => by omega
  | n + 1, t, h, h1, h2, ob, p, cN, cS => by
    have hW := p.2.2.1
    have vw := ob.1
    have dj : Dj (x + 16) v := by unfold Dj; omega
    have wst := WSyT hW ws (g := g) t
    show ∃ h', f_X10_years_57_b N (f_X10_years_57 N n) x _ _ _ _ _ h = _ ∧ _
    unfold f_X10_years_57_b
    rw [ite_i (nI_leI (by omega) (by omega))]
    by_cases c : T ≤ t
    · have e : t = T := by omega
      subst e
      refine ⟨h, ?_, Ex.rf, p⟩
      unfold yA
      rw [if_pos c, ite_i (show nI wh = 0 ↔ wh = 0 from nI_eq (b := 0) (by omega) (by decide))]
      by_cases w0 : wh = 0
      · rw [if_pos w0, if_pos w0]
      · rw [if_neg w0, if_neg w0, ite_i (show nI wh = 1 ↔ wh = 1 from nI_eq (b := 1) (by omega) (by decide))]
        by_cases w1 : wh = 1
        · have sm := yC_sum hW ws (g := g) t
          rw [if_pos w1, if_pos w1, ck_p ob.k9, ob.R4, rq_s, ck_p ob.dr.1, c_sootOfAll (by omega) ob.dr cS, cl_s, ck_p ob.k9, ob.R1, rq_s, ck_p ob.mt.1, ob.mt.2.1.1, rq_s, ck_p ob.st.1, c_sootOfAll (by omega) ob.st cN, cl_s, sm, pk_sub (by omega), Nat.add_sub_cancel_left]
        · rw [if_neg w1, if_neg w1, ck_p ob.k9, ob.R4, rq_s, ck_p ob.dr.1, c_stockOfAll (by omega) ob.dr cS, cl_s]
    · obtain ⟨ha, a1, a2, a3⟩ := c_dreamBurns (N := N) hN ob p cS wst
      have oba := ob.shp (x := x) a2.shp
      have pa := p.ex a2 (fun z z1 z2 z3 => by unfold inS at z3; omega)
      have wm := WSyM hW wst
      obtain ⟨hb, b1, b2, b3⟩ := c_signsRead hN dj pa oba.dr a3 wm (by omega)
      have obb := oba.shp (x := x) b2.shp
      have cb := a3.gx dj b2
      obtain ⟨hc, d1, d2, d3, d4⟩ := c_pass hN dj b3 obb.dr cb wm (by omega)
      have obc := obb.shp (x := x) d2.shp
      have tt : Ex (inSV (x + 16) v) h hc := ((a2.mono (fun z hz => Or.inl hz)).trans (b2.ex.mono (fun z hz => Or.inr hz))).trans d2
      obtain ⟨h', s1, s2, s3⟩ := c_y57 hN (S := S) (g := g) hT hJ hwh ws n (t + 1) hc (by omega) (by omega) obc d3 (cN.ex tt (fun z z1 z2 z3 => by unfold inSV inS at z3; omega)) d4
      refine ⟨h', ?_, tt.trans s2, s3⟩
      rw [if_neg c, ck_p ob.k9, a1, cl_s, ck_p oba.k9, oba.R4, rq_s, oba.R8, rq_s, ck_p oba.dr.1, b1, cl_s, nI_add, bd_e, ck_p obb.k9, obb.R4, rq_s, obb.R8, rq_s, ck_p obb.dr.1, d1, cl_s, bd_e, nI_1]
      exact s1
end YC
