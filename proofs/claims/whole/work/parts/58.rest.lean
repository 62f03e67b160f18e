/-! The duty of rests, the class's side. -/
theorem fb_2 {g : Nat → Nat} {i k : Nat} (ne : i ≠ k) (h : ∀ j, j ≠ i → j ≠ k → g j = 0) : ∀ n, fb_sm g n = (if i < n then g i else 0) + (if k < n then g k else 0)
  | 0 => rfl
  | n + 1 => by
    show fb_sm g n + g n = _
    rw [fb_2 ne h n]
    by_cases c : n = i
    · subst c
      rw [if_neg (Nat.lt_irrefl _), if_pos (Nat.lt_succ_self _)]
      by_cases d : k < n
      · rw [if_pos d, if_pos (by omega)]; omega
      · rw [if_neg d, if_neg (by omega)]; omega
    · by_cases d : n = k
      · subst d
        rw [if_neg (Nat.lt_irrefl n), if_pos (Nat.lt_succ_self n)]
        by_cases e : i < n
        · rw [if_pos e, if_pos (show i < n + 1 by omega)]; omega
        · rw [if_neg e, if_neg (show ¬ i < n + 1 by omega)]
      · rw [h n c d]
        have e1 : (i < n + 1) ↔ (i < n) := by omega
        have e2 : (k < n + 1) ↔ (k < n) := by omega
        rw [ite_i e1, ite_i e2, Nat.add_zero]
/-- two neighbours without a fire; a way that only they go -/
def NB (A : AV) (S : AS) (f i k : Nat) : Prop := (noF A S f).testBit i = true ∧ (noF A S f).testBit k = true ∧ i ≠ k
def PR (A : AV) (i k : Nat) (u : Nat → Nat) : Prop := okU A u ∧ ∀ j, j ≠ i → j ≠ k → u j = 5
/-- what a neighbour gets of a way -/
def gn (A : AV) (S : AS) (i s : Nat) (z : Int32) (u : Nat → Nat) : Int32 := (if sbs A S u (aF A i) = nI s then z else 0) - (if 5 ≤ u i then 0 else 1)
/-- nothing else would give it more -/
def okB (A : AV) (S : AS) (i s : Nat) (z : Int32) (u : Nat → Nat) (p : Nat) : Bool := !(al A S i p) || !(decide (gn A S i s z u < gn A S i s z (va_up u i p)))
def okG (A : AV) (S : AS) (i s : Nat) (z : Int32) (u : Nat → Nat) : Bool := allB (okB A S i s z u) 6
def w2 (i k p q : Nat) : Nat → Nat := fun j => if j = i then p else if j = k then q else 5
def ctB (A : AV) (S : AS) (i k s t : Nat) (z : Int32) (p q : Nat) : Bool := (al A S i p && okG A S i s z (w2 i k p q)) && (al A S k q && okG A S k t z (w2 i k p q))
def rR (A : AV) (ct : Nat → Nat → Bool) (want : Int32) : Nat → Nat → Int32 → Option Int32
  | 0, _, c => if want = -1 then some c else none
  | n + 1, k, c => if ct (k / 6) (k % 6) = true then (if c = want then some (nI (10 * cu A (k / 6) + cu A (k % 6))) else rR A ct want n (k + 1) (c + 1)) else rR A ct want n (k + 1) c
section RE
variable {N x y o J : Nat} {A : AV} {S : AS}
theorem PR.sw {i k : Nat} {u : Nat → Nat} (p : PR A i k u) : PR A k i u := ⟨p.1, fun j h1 h2 => p.2 j h2 h1⟩
theorem NB.sw {f i k : Nat} (p : NB A S f i k) : NB A S f k i := ⟨p.2.1, p.1, fun z => p.2.2 z.symm⟩
theorem PR.up {i k p' : Nat} {u : Nat → Nat} (hp : p' = 5 ∨ p' < aC A 0) (p : PR A i k u) : PR A i k (va_up u i p') := by
  refine ⟨fun j hj => ?_, fun j h1 h2 => ?_⟩
  · by_cases c : j = i
    · rw [c, va_eq]; exact hp
    · rw [va_ne c]; exact p.1 j hj
  · rw [va_ne h1]; exact p.2 j h1 h2
theorem PR.w2 {i k p q : Nat} (hp : p = 5 ∨ p < aC A 0) (hq : q = 5 ∨ q < aC A 0) : PR A i k (w2 i k p q) := by
  refine ⟨fun j _ => ?_, fun j h1 h2 => ?_⟩
  · unfold Pilot.COneSmokeLaw_law_r9589_37766e.w2
    by_cases c : j = i
    · rw [if_pos c]; exact hp
    · rw [if_neg c]
      by_cases d : j = k
      · rw [if_pos d]; exact hq
      · rw [if_neg d]; exact Or.inl rfl
  · unfold Pilot.COneSmokeLaw_law_r9589_37766e.w2
    rw [if_neg h1, if_neg h2]
theorem frc_no (w b : Nat) : frc A w b (cu A 5) = 0 := by
  unfold frc cu
  rw [if_pos rfl, if_neg (Nat.lt_irrefl _)]
theorem dS_2 {f i k : Nat} {u : Nat → Nat} (nb : NB A S f i k) (hi : i < 4) (hk : k < 4) (pr : PR A i k u) (w b : Nat) : dS A (noF A S f) u w b 4 = frc A w b (cu A (u i)) + frc A w b (cu A (u k)) := by
  unfold dS
  rw [fb_2 (i := i) (k := k) nb.2.2 (fun j h1 h2 => ?_) 4, if_pos hi, if_pos hk, if_pos nb.1, if_pos nb.2.1]
  by_cases c : (noF A S f).testBit j = true
  · rw [if_pos c, pr.2 j h1 h2]; exact frc_no w b
  · rw [if_neg c]
theorem okp_un (h5 : aC A 0 ≤ 5) {P : Nat} (hP : P ≤ aC A 0) : un (aC A 0) P = 5 ∨ un (aC A 0) P < aC A 0 := by
  unfold un
  by_cases c : P = aC A 0
  · rw [if_pos c]; exact Or.inl rfl
  · rw [if_neg c]; omega
theorem cu_le (h5 : aC A 0 ≤ 5) {p : Nat} (hp : p = 5 ∨ p < aC A 0) : cu A p ≤ aC A 0 := by
  unfold cu
  split <;> omega
theorem c_signWith (hN : 2000 ≤ N) {v w' f i k : Nat} {u : Nat → Nat} {h : PH} (hf : f < 1000) (ob : OB h x v w') (pv : VA h v A) (cS : CS h (x + 3 + 1) S) (hT : WS A J S) (hJ : J < 2 ^ 30) (nb : NB A S f i k) (pr : PR A i k u) : ∃ h', f_X10_signWith N x (nI f) (nI (cu A (u i))) (nI (cu A (u k))) h = some (sbs A S u f, h') ∧ Gx v h h' ∧ VA h' v A := by
  have hW := pv.2.2.1
  have vw := ob.1
  have ht := hT.1
  have h5 := hW.1.1
  have h4 := hW.1.2.2.1
  have d : Dj (x + 3 + 1) v := by unfold Dj; omega
  have hi : i < 4 := by have := (noF_b.mp nb.1).1; omega
  have hk : k < 4 := by have := (noF_b.mp nb.2.1).1; omega
  have ci := cu_le h5 (pr.1 i hi)
  have ck' := cu_le h5 (pr.1 k hk)
  have wl := aWind_le hW (tH S)
  have le0 := leaf_eq hW hT pr.1 f 0
  have le1 := leaf_eq hW hT pr.1 f 1
  rw [dS_2 nb hi hk pr] at le0 le1
  obtain ⟨g1, r1, x1, p1⟩ := c_smoke hN d pv ob.st cS hT hJ (aHs_lt hW f) (b := 0) (by decide)
  have ob1 := ob.shp (x := x) x1.shp
  obtain ⟨g2, r2, x2, p2⟩ := c_fresh (N := N) hN p1 ci wl (b := 0) (by decide)
  have ob2 := ob1.shp (x := x) x2.shp
  obtain ⟨g3, r3, x3, p3⟩ := c_fresh (N := N) hN p2 ck' wl (b := 0) (by decide)
  have ob3 := ob2.shp (x := x) x3.shp
  have cS3 := ((cS.gx d x1).gx d x2).gx d x3
  obtain ⟨g4, r4, x4, p4⟩ := c_smoke hN d p3 ob3.st cS3 hT hJ (aHs_lt hW f) (b := 1) (by decide)
  have ob4 := ob3.shp (x := x) x4.shp
  obtain ⟨g5, r5, x5, p5⟩ := c_fresh (N := N) hN p4 ci wl (b := 1) (by decide)
  have ob5 := ob4.shp (x := x) x5.shp
  obtain ⟨g6, r6, x6, p6⟩ := c_fresh (N := N) hN p5 ck' wl (b := 1) (by decide)
  have ob6 := ob5.shp (x := x) x6.shp
  have r1 : f_X4_smoke N (x + 3 + 1) v (nI (aHs A f)) 0 h = _ := r1
  have r2 : f_X6_fresh N v (nI (cu A (u i))) (nI (aWind A (tH S))) 0 g1 = _ := r2
  have r3 : f_X6_fresh N v (nI (cu A (u k))) (nI (aWind A (tH S))) 0 g2 = _ := r3
  have r4 : f_X4_smoke N (x + 3 + 1) v (nI (aHs A f)) 1 g3 = _ := r4
  have r5 : f_X6_fresh N v (nI (cu A (u i))) (nI (aWind A (tH S))) 1 g4 = _ := r5
  have r6 : f_X6_fresh N v (nI (cu A (u k))) (nI (aWind A (tH S))) 1 g5 = _ := r6
  have f1 := frc_le hW (aWind A (tH S)) 0 (cu A (u i))
  have f2 := frc_le hW (aWind A (tH S)) 0 (cu A (u k))
  have f3 := frc_le hW (aWind A (tH S)) 1 (cu A (u i))
  have f4 := frc_le hW (aWind A (tH S)) 1 (cu A (u k))
  have b0 := smX_le A S (aHs A f) 0
  have b1 := smX_le A S (aHs A f) 1
  refine ⟨g6, ?_, ((((x1.trans x2).trans x3).trans x4).trans x5).trans x6, p6⟩
  unfold f_X10_signWith
  rw [ck_p ob.k9, ob.R8, rq_s, ck_p pv.1.1, c_housesAt (by omega) pv.1 pv.2.1 hW hf, cl_s, ck_p ob.k9, ob.R8, rq_s, ob.R1, rq_s, ck_p ob.mt.1, ob.mt.2.1.1, rq_s, ck_p ob.st.1, ck_p pv.1.1, cS.1, c_windAt pv.1 pv.2.1 hW (by omega), cl_s, ck_p ob.k9, ob.R1, rq_s, ck_p ob.mt.1, ob.mt.2.1.1, rq_s, ob.R8, rq_s, ck_p ob.st.1, r1, cl_s, ck_p ob1.k9, ob1.R8, rq_s, ck_p p1.1.1, r2, cl_s, ck_p ob2.k9, ob2.R8, rq_s, ck_p p2.1.1, r3, cl_s, nI_add, nI_add, bd_e, ck_p ob3.k9, ob3.R1, rq_s, ck_p ob3.mt.1, ob3.mt.2.1.1, rq_s, ob3.R8, rq_s, ck_p ob3.st.1, r4, cl_s, ck_p ob4.k9, ob4.R8, rq_s, ck_p p4.1.1, r5, cl_s, ck_p ob5.k9, ob5.R8, rq_s, ck_p p5.1.1, r6, cl_s, nI_add, nI_add, bd_e, ck_p ob6.k9, ob6.R8, rq_s, ck_p p6.1.1, c_signOf (by omega) p6.1 p6.2.1 hW (by omega) (by omega), cl_s, le0, le1]
  rfl
theorem c_gainOf (hN : 2000 ≤ N) {v w' f i k s : Nat} {z : Int32} {u : Nat → Nat} {h : PH} (ob : OB h x v w') (pv : VA h v A) (cS : CS h (x + 3 + 1) S) (hT : WS A J S) (hJ : J < 2 ^ 30) (nb : NB A S f i k) (pr : PR A i k u) : ∃ h', f_X10_gainOf N x (nI i) (nI (cu A (u i))) (nI (cu A (u k))) (nI s) z h = some (gn A S i s z u, h') ∧ Gx v h h' ∧ VA h' v A := by
  have hW := pv.2.2.1
  have h5 := hW.1.1
  have h3 := hW.1.2.1
  have h4 := hW.1.2.2.1
  obtain ⟨hi, ef, -⟩ := noF_b.mp nb.1
  have fl := hW.2.2.1 i hi
  have ci := cu_le h5 (pr.1 i (by omega))
  obtain ⟨g, r1, r2, r3⟩ := c_signWith (N := N) hN (f := f) (by omega) ob pv cS hT hJ nb pr
  have ob1 := ob.shp (x := x) r2.shp
  refine ⟨g, ?_, r2, r3⟩
  have e30 : ∀ c : Int32, f_X10_gainOf_30 N c x (nI (cu A (u i))) g = some (c - (if 5 ≤ u i then 0 else 1), g) := fun c => by
    unfold f_X10_gainOf_30 f_X10_gainOf_48
    rw [ck_p ob1.k9, ob1.R8, rq_s, ck_p r3.1.1, vR_many r3.1, rq_s, ck_p (vK_many r3.1), vN_many r3.1, ck_p (by decide), r3.2.1.1 0 (by decide), ite_i (nI_leI (by omega) (by omega))]
    have q := pr.1 i (show i < 4 by omega)
    by_cases e : 5 ≤ u i
    · rw [if_pos e, if_pos (by unfold cu; rw [if_pos (by omega)]; omega)]
    · rw [if_neg e, if_neg (by unfold cu; rw [if_neg (by omega)]; omega)]
  unfold f_X10_gainOf gn
  rw [ck_p ob.k9, ob.R8, rq_s, ck_p pv.1.1, vR_flue pv.1, rq_s, ck_p (vK_flue pv.1), vN_flue pv.1, ck_p (nI_ix (by omega) (by decide)), ix_nI (by omega), pv.2.1.2.2.2.1 i hi, ef, r1, cl_s]
  by_cases c : sbs A S u f = nI s
  · rw [if_pos c, if_pos c, e30]
  · rw [if_neg c, if_neg c, e30]
theorem c_mayTake {v w' i p : Nat} {h : PH} (ob : OB h x v w') (pv : VA h v A) (cS : CS h (x + 3 + 1) S) (hT : WS A J S) (hi : i < aC A 2) (hp : p = 5 ∨ p < aC A 0) : f_X10_mayTake N x (nI i) (nI (cu A p)) h = some (yb (al A S i p), h) := by
  have hW := pv.2.2.1
  have h5 := hW.1.1
  have h4 := hW.1.2.2.1
  have cl := cu_le h5 hp
  unfold f_X10_mayTake
  rw [ck_p ob.k9, ob.R8, rq_s, ck_p pv.1.1, vR_many pv.1, rq_s, ck_p (vK_many pv.1), vN_many pv.1, ck_p (by decide), pv.2.1.1 0 (by decide), ite_i (nI_eq (by omega) (by omega))]
  by_cases c : p = 5
  · have : cu A p = aC A 0 := by unfold cu; rw [if_pos c]
    rw [if_pos this, c, al5]
    rfl
  · have lp := hp.resolve_left c
    have e : cu A p = p := by unfold cu; rw [if_neg c]
    rw [e, if_neg (by omega), c_canBurn (N := N) ob pv cS hT (nI i) (nI p), cl_s, ix_nI (by omega), ix_nI (by omega)]
    by_cases q : tL S i = 0 ∧ 0 < tT S (5 * i + p)
    · rw [yesT ⟨toldI (by omega) hi, toldI (by omega) lp, q⟩, if_neg one0]
      have : al A S i p = true := by unfold al; simp [lp, q]
      rw [this]
      rfl
    · rw [yesF (fun z => q z.2.2), if_pos rfl]
      have : al A S i p = false := by unfold al; simp only [c, lp, q]; rfl
      rw [this]
      rfl
theorem al_far {i p : Nat} (h1 : aC A 0 ≤ p) (h2 : p < 5) : al A S i p = false := by
  unfold al
  have e1 : ¬ p = 5 := by omega
  have e2 : ¬ p < aC A 0 := by omega
  simp [e1, e2]
theorem c_ic27 (hN : 2000 ≤ N) {v w' f i k s : Nat} {z : Int32} {u : Nat → Nat} (hT : WS A J S) (hJ : J < 2 ^ 30) (nb : NB A S f i k) (pr : PR A i k u) : ∀ (n P : Nat) (h : PH), aC A 0 + 1 < n + P → P ≤ aC A 0 + 1 → OB h x v w' → VA h v A → CS h (x + 3 + 1) S → (∀ P', P' < P → okB A S i s z u (un (aC A 0) P') = true) → ∃ h', f_X10_isContent_27 N n x (nI i) (nI (cu A (u k))) (nI s) z (gn A S i s z u) (nI P) h = some (yb (okG A S i s z u), h') ∧ Gx v h h' ∧ VA h' v A
  | 0, P, h, h1, h2, _, _, _, _ => by omega
  | n + 1, P, h, h1, h2, ob, pv, cS, hok => by
    have hW := pv.2.2.1
    have vw := ob.1
    have h5 := hW.1.1
    have h4 := hW.1.2.2.1
    have d : Dj (x + 3 + 1) v := by unfold Dj; omega
    obtain ⟨hi, ef, -⟩ := noF_b.mp nb.1
    show ∃ h', f_X10_isContent_27_b N (f_X10_isContent_27 N n) x _ _ _ _ _ _ h = _ ∧ _
    unfold f_X10_isContent_27_b
    rw [ck_p ob.k9, ob.R8, rq_s, ck_p pv.1.1, vR_many pv.1, rq_s, ck_p (vK_many pv.1), vN_many pv.1, ck_p (by decide), pv.2.1.1 0 (by decide), ite_i (nI_ltI (by omega) (by omega))]
    by_cases c : aC A 0 < P
    · have : okG A S i s z u = true := by
        unfold okG
        rw [allB_iff]
        intro p hp
        by_cases q : p < aC A 0
        · have := hok p (by omega)
          unfold un at this
          rw [if_neg (by omega)] at this
          exact this
        · by_cases q5 : p = 5
          · have := hok (aC A 0) (by omega)
            unfold un at this
            rw [if_pos rfl] at this
            rw [q5]; exact this
          · unfold okB
            rw [al_far (by omega) (by omega)]
            rfl
      rw [if_pos c, this]
      exact ⟨h, rfl, Gx.rf, pv⟩
    · have hP : P ≤ aC A 0 := by omega
      have hu := okp_un h5 hP
      have u6 : un (aC A 0) P < 6 := by omega
      have mt := c_mayTake (N := N) ob pv cS hT hi hu
      rw [cu_un h5 hP] at mt
      have next : ∀ g, Gx v h g → VA g v A → okB A S i s z u (un (aC A 0) P) = true → ∃ h', f_X10_isContent_70 N (f_X10_isContent_27 N n) x (nI i) (nI (cu A (u k))) (nI s) z (gn A S i s z u) (nI P) g = some (yb (okG A S i s z u), h') ∧ Gx v h h' ∧ VA h' v A := fun g xg pg o1 => by
        obtain ⟨h', t1, t2, t3⟩ := c_ic27 hN hT hJ nb pr n (P + 1) g (by omega) (by omega) (ob.shp xg.shp) pg (cS.gx d xg) (fun P' hP' => by
          by_cases q : P' = P
          · rw [q]; exact o1
          · exact hok P' (by omega))
        refine ⟨h', ?_, xg.trans t2, t3⟩
        unfold f_X10_isContent_70
        rw [bd_e, nI_1]
        exact t1
      rw [if_neg c, mt, cl_s, ite_i yb0]
      by_cases q : al A S i (un (aC A 0) P) = true
      · have pr' := pr.up (p' := un (aC A 0) P) hu
        obtain ⟨g, r1, r2, r3⟩ := c_gainOf (N := N) (s := s) (z := z) hN ob pv cS hT hJ nb pr'
        rw [va_eq, cu_un h5 hP, va_ne (fun z => nb.2.2 z.symm)] at r1
        rw [if_neg (by rw [q]; decide), ck_p ob.k9, r1, cl_s]
        by_cases le : gn A S i s z (va_up u i (un (aC A 0) P)) ≤ gn A S i s z u
        · rw [if_pos le]
          refine next g r2 r3 ?_
          unfold okB
          have nl : ¬ gn A S i s z u < gn A S i s z (va_up u i (un (aC A 0) P)) := by
            rw [fa_lt]
            rw [fa_le] at le
            omega
          simp [nl]
        · rw [if_neg le]
          have lt : gn A S i s z u < gn A S i s z (va_up u i (un (aC A 0) P)) := by
            rw [fa_lt]
            rw [fa_le] at le
            omega
          have : okG A S i s z u = false := by
            cases e : okG A S i s z u
            · rfl
            · have := allB_iff.mp e _ u6
              unfold okB at this
              simp [q, lt] at this
          rw [this]
          exact ⟨g, rfl, r2, r3⟩
      · have q : al A S i (un (aC A 0) P) = false := by simpa using q
        rw [if_pos q]
        exact next h Gx.rf pv (by unfold okB; rw [q]; rfl)
theorem c_isContent (hN : 2000 ≤ N) {v w' f i k s : Nat} {z : Int32} {u : Nat → Nat} {h : PH} (hT : WS A J S) (hJ : J < 2 ^ 30) (nb : NB A S f i k) (pr : PR A i k u) (ob : OB h x v w') (pv : VA h v A) (cS : CS h (x + 3 + 1) S) : ∃ h', f_X10_isContent N x (nI i) (nI (cu A (u i))) (nI (cu A (u k))) (nI s) z h = some (yb (al A S i (u i) && okG A S i s z u), h') ∧ Gx v h h' ∧ VA h' v A := by
  have hW := pv.2.2.1
  have vw := ob.1
  have h5 := hW.1.1
  have h4 := hW.1.2.2.1
  have d : Dj (x + 3 + 1) v := by unfold Dj; omega
  obtain ⟨hi, ef, -⟩ := noF_b.mp nb.1
  unfold f_X10_isContent
  rw [ck_p ob.k9, c_mayTake (N := N) ob pv cS hT hi (pr.1 i (by omega)), cl_s, ite_i yb0]
  by_cases q : al A S i (u i) = true
  · obtain ⟨g, r1, r2, r3⟩ := c_gainOf (N := N) (s := s) (z := z) hN ob pv cS hT hJ nb pr
    obtain ⟨h', t1, t2, t3⟩ := c_ic27 (N := N) (x := x) (s := s) (z := z) hN hT hJ nb pr N 0 g (by omega) (by omega) (ob.shp r2.shp) r3 (cS.gx d r2) (fun P' hP' => absurd hP' (Nat.not_lt_zero _))
    rw [if_neg (by rw [q]; decide), ck_p ob.k9, r1, cl_s, q]
    exact ⟨h', t1, r2.trans t2, t3⟩
  · have q : al A S i (u i) = false := by simpa using q
    rw [if_pos q, q]
    exact ⟨h, rfl, Gx.rf, pv⟩
end RE
