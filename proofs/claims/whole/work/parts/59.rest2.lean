/-! The duty of rests: the class's loops; the reference's side. -/
section RF
variable {N x y o J : Nat} {A : AV} {S : AS}
theorem rR_skip {ct : Nat → Nat → Bool} {want c : Int32} {n k : Nat} (h : ct (k / 6) (k % 6) = false) : rR A ct want (n + 1) k c = rR A ct want n (k + 1) c := by
  show (if ct (k / 6) (k % 6) = true then _ else rR A ct want n (k + 1) c) = _
  rw [if_neg (by rw [h]; decide)]
theorem rR_q {ct : Nat → Nat → Bool} {want c : Int32} {p : Nat} (hp : p ≤ 5) (hc : ∀ q, aC A 0 ≤ q → q < 5 → ct p q = false) : ∀ d j, d + j = 5 → aC A 0 ≤ j → rR A ct want (36 - (6 * p + j)) (6 * p + j) c = rR A ct want (36 - (6 * p + 5)) (6 * p + 5) c
  | 0, j, h, _ => by rw [show j = 5 by omega]
  | d + 1, j, h, hj => by
    have e1 : (6 * p + j) / 6 = p := by omega
    have e2 : (6 * p + j) % 6 = j := by omega
    rw [show 36 - (6 * p + j) = (36 - (6 * p + (j + 1))) + 1 by omega, rR_skip (by rw [e1, e2]; exact hc j hj (by omega)), ← rR_q hp hc d (j + 1) (by omega) (by omega)]
    rfl
theorem rR_p {ct : Nat → Nat → Bool} {want c : Int32} (hc : ∀ p q, aC A 0 ≤ p → p < 5 → ct p q = false) : ∀ d k, d + k = 30 → 6 * aC A 0 ≤ k → rR A ct want (36 - k) k c = rR A ct want 6 30 c
  | 0, k, h, _ => by rw [show k = 30 by omega]
  | d + 1, k, h, hk => by
    rw [show 36 - k = (36 - (k + 1)) + 1 by omega, rR_skip (hc _ _ (by omega) (by omega)), rR_p hc d (k + 1) (by omega) (by omega)]
theorem ctB_p {i k s t : Nat} {z : Int32} {p q : Nat} (h1 : aC A 0 ≤ p) (h2 : p < 5) : ctB A S i k s t z p q = false := by
  unfold ctB
  rw [al_far h1 h2]
  rfl
theorem ctB_q {i k s t : Nat} {z : Int32} {p q : Nat} (h1 : aC A 0 ≤ q) (h2 : q < 5) : ctB A S i k s t z p q = false := by
  unfold ctB
  rw [al_far (S := S) (i := k) h1 h2, Bool.false_and, Bool.and_false]
theorem c_r91 (hN : 2000 ≤ N) {v w' f i k s t : Nat} {z want : Int32} {K : Nat → Int32 → Int32 → Int32 → Int32 → Int32 → Int32 → Int32 → Int32 → PH → Option (Option Int32 × PH)} {P : Nat} (hT : WS A J S) (hJ : J < 2 ^ 30) (nb : NB A S f i k) (hP : P ≤ aC A 0) (hK : ∀ (c : Int32) (g : PH), OB g x v w' → VA g v A → CS g (x + 3 + 1) S → ∃ h', K x (nI i) (nI k) (nI s) (nI t) z want c (nI (P + 1)) g = some (rR A (ctB A S i k s t z) want (36 - (6 * un (aC A 0) P + 6)) (6 * un (aC A 0) P + 6) c, h') ∧ Gx v g h' ∧ VA h' v A) : ∀ (n Q : Nat) (c : Int32) (h : PH), aC A 0 + 1 < n + Q → Q ≤ aC A 0 → OB h x v w' → VA h v A → CS h (x + 3 + 1) S → ∃ h', f_X10_rests_91 N K n x (nI i) (nI k) (nI s) (nI t) z want c (nI P) (nI Q) h = some (rR A (ctB A S i k s t z) want (36 - (6 * un (aC A 0) P + un (aC A 0) Q)) (6 * un (aC A 0) P + un (aC A 0) Q) c, h') ∧ Gx v h h' ∧ VA h' v A
  | 0, Q, c, h, h1, h2, _, _, _ => by omega
  | n + 1, Q, c, h, h1, h2, ob, pv, cS => by
    have hW := pv.2.2.1
    have vw := ob.1
    have h5 := hW.1.1
    have h4 := hW.1.2.2.1
    have d : Dj (x + 3 + 1) v := by unfold Dj; omega
    obtain ⟨hi, ef, -⟩ := noF_b.mp nb.1
    obtain ⟨hk, ek, -⟩ := noF_b.mp nb.2.1
    have up := okp_un h5 hP
    have uq := okp_un h5 h2
    have pr : PR A i k (w2 i k (un (aC A 0) P) (un (aC A 0) Q)) := PR.w2 up uq
    have wi : w2 i k (un (aC A 0) P) (un (aC A 0) Q) i = un (aC A 0) P := by unfold w2; rw [if_pos rfl]
    have wk : w2 i k (un (aC A 0) P) (un (aC A 0) Q) k = un (aC A 0) Q := by unfold w2; rw [if_neg (fun q => nb.2.2 q.symm), if_pos rfl]
    have u5' : un (aC A 0) P ≤ 5 := by omega
    have q5' : un (aC A 0) Q ≤ 5 := by omega
    have e1 : (6 * un (aC A 0) P + un (aC A 0) Q) / 6 = un (aC A 0) P := by omega
    have e2 : (6 * un (aC A 0) P + un (aC A 0) Q) % 6 = un (aC A 0) Q := by omega
    -- one step of the list
    have st : ∀ c, rR A (ctB A S i k s t z) want (36 - (6 * un (aC A 0) P + un (aC A 0) Q)) (6 * un (aC A 0) P + un (aC A 0) Q) c = if ctB A S i k s t z (un (aC A 0) P) (un (aC A 0) Q) = true then (if c = want then some (nI (10 * P + Q)) else rR A (ctB A S i k s t z) want (36 - (6 * un (aC A 0) P + un (aC A 0) Q + 1)) (6 * un (aC A 0) P + un (aC A 0) Q + 1) (c + 1)) else rR A (ctB A S i k s t z) want (36 - (6 * un (aC A 0) P + un (aC A 0) Q + 1)) (6 * un (aC A 0) P + un (aC A 0) Q + 1) c := fun c => by
      rw [show 36 - (6 * un (aC A 0) P + un (aC A 0) Q) = (36 - (6 * un (aC A 0) P + un (aC A 0) Q + 1)) + 1 by omega]
      show (if ctB A S i k s t z ((6 * un (aC A 0) P + un (aC A 0) Q) / 6) ((6 * un (aC A 0) P + un (aC A 0) Q) % 6) = true then (if c = want then some (nI (10 * cu A ((6 * un (aC A 0) P + un (aC A 0) Q) / 6) + cu A ((6 * un (aC A 0) P + un (aC A 0) Q) % 6))) else _) else _) = _
      rw [e1, e2, cu_un h5 hP, cu_un h5 h2]
    have next : ∀ (c' : Int32) (g : PH), Gx v h g → VA g v A → ∃ h', f_X10_rests_155 N K (f_X10_rests_91 N K n) x (nI i) (nI k) (nI s) (nI t) z want c' (nI P) (nI Q) g = some (rR A (ctB A S i k s t z) want (36 - (6 * un (aC A 0) P + un (aC A 0) Q + 1)) (6 * un (aC A 0) P + un (aC A 0) Q + 1) c', h') ∧ Gx v h h' ∧ VA h' v A := fun c' g xg pg => by
      have ob1 := ob.shp (x := x) xg.shp
      have cS1 := cS.gx d xg
      unfold f_X10_rests_155
      rw [bd_e, nI_1]
      by_cases lt : Q < aC A 0
      · obtain ⟨h', t1, t2, t3⟩ := c_r91 hN hT hJ nb hP hK n (Q + 1) c' g (by omega) (by omega) ob1 pg cS1
        refine ⟨h', t1.trans ?_, xg.trans t2, t3⟩
        have eQ : un (aC A 0) Q = Q := by unfold un; rw [if_neg (by omega)]
        rw [eQ]
        by_cases e : Q + 1 = aC A 0
        · have eq : un (aC A 0) (Q + 1) = 5 := by unfold un; rw [if_pos e]
          rw [eq, ← rR_q u5' (fun q q1 q2 => ctB_q q1 q2) (5 - (Q + 1)) (Q + 1) (by omega) (by omega)]
          rfl
        · have eq : un (aC A 0) (Q + 1) = Q + 1 := by unfold un; rw [if_neg e]
          rw [eq]
          rfl
      · have eQ : Q = aC A 0 := by omega
        obtain ⟨n, rfl⟩ : ∃ m, n = m + 1 := ⟨n - 1, by omega⟩
        obtain ⟨h', t1, t2, t3⟩ := hK c' g ob1 pg cS1
        refine ⟨h', ?_, xg.trans t2, t3⟩
        have uQ : un (aC A 0) Q = 5 := by unfold un; rw [if_pos eQ]
        rw [uQ]
        show f_X10_rests_91_b N K (f_X10_rests_91 N K n) x _ _ _ _ _ _ _ _ _ g = _
        unfold f_X10_rests_91_b
        rw [ck_p ob1.k9, ob1.R8, rq_s, ck_p pg.1.1, vR_many pg.1, rq_s, ck_p (vK_many pg.1), vN_many pg.1, ck_p (by decide), pg.2.1.1 0 (by decide), if_pos (by rw [nI_ltI (by omega) (by omega)]; omega), bd_e, nI_1]
        exact t1
    obtain ⟨g, r1, r2, r3⟩ := c_isContent (N := N) (s := s) (z := z) hN hT hJ nb pr ob pv cS
    rw [wi, wk, cu_un h5 hP, cu_un h5 h2] at r1
    have ob1 := ob.shp (x := x) r2.shp
    obtain ⟨g', s1, s2, s3⟩ := c_isContent (N := N) (s := t) (z := z) hN hT hJ nb.sw pr.sw ob1 r3 (cS.gx d r2)
    rw [wi, wk, cu_un h5 hP, cu_un h5 h2] at s1
    have ct : ctB A S i k s t z (un (aC A 0) P) (un (aC A 0) Q) = ((al A S i (un (aC A 0) P) && okG A S i s z (w2 i k (un (aC A 0) P) (un (aC A 0) Q))) && (al A S k (un (aC A 0) Q) && okG A S k t z (w2 i k (un (aC A 0) P) (un (aC A 0) Q)))) := rfl
    show ∃ h', f_X10_rests_91_b N K (f_X10_rests_91 N K n) x _ _ _ _ _ _ _ _ _ h = _ ∧ _
    unfold f_X10_rests_91_b
    rw [ck_p ob.k9, ob.R8, rq_s, ck_p pv.1.1, vR_many pv.1, rq_s, ck_p (vK_many pv.1), vN_many pv.1, ck_p (by decide), pv.2.1.1 0 (by decide), if_neg (by rw [nI_ltI (by omega) (by omega)]; omega), r1, cl_s, ite_i yb0, st, ct]
    by_cases q1 : (al A S i (un (aC A 0) P) && okG A S i s z (w2 i k (un (aC A 0) P) (un (aC A 0) Q))) = true
    · rw [q1, if_neg (by decide), ck_p ob1.k9, s1, cl_s, ite_i yb0, Bool.true_and]
      by_cases q2 : (al A S k (un (aC A 0) Q) && okG A S k t z (w2 i k (un (aC A 0) P) (un (aC A 0) Q))) = true
      · rw [q2, if_neg (by decide), if_pos rfl]
        by_cases e : c = want
        · rw [if_pos e, if_pos e, show (10 : Int32) = nI 10 from rfl, pk_mul, nI_add]
          exact ⟨g', rfl, r2.trans s2, s3⟩
        · rw [if_neg e, if_neg e, bd_e]
          exact next (c + 1) g' (r2.trans s2) s3
      · have q2 : (al A S k (un (aC A 0) Q) && okG A S k t z (w2 i k (un (aC A 0) P) (un (aC A 0) Q))) = false := by simpa using q2
        rw [q2, if_pos rfl, if_neg (by decide)]
        exact next c g' (r2.trans s2) s3
    · have q1 : (al A S i (un (aC A 0) P) && okG A S i s z (w2 i k (un (aC A 0) P) (un (aC A 0) Q))) = false := by simpa using q1
      rw [q1, if_pos rfl, Bool.false_and, if_neg (by decide)]
      exact next c g r2 r3
theorem c_r74 (hN : 2000 ≤ N) {v w' f i k s t : Nat} {z want : Int32} (hT : WS A J S) (hJ : J < 2 ^ 30) (nb : NB A S f i k) : ∀ (n P : Nat) (c : Int32) (h : PH), aC A 0 + 1 < n + P → P ≤ aC A 0 → OB h x v w' → VA h v A → CS h (x + 3 + 1) S → ∃ h', f_X10_rests_74 N n x (nI i) (nI k) (nI s) (nI t) z want c (nI P) h = some (rR A (ctB A S i k s t z) want (36 - 6 * un (aC A 0) P) (6 * un (aC A 0) P) c, h') ∧ Gx v h h' ∧ VA h' v A
  | 0, P, c, h, h1, h2, _, _, _ => by omega
  | n + 1, P, c, h, h1, h2, ob, pv, cS => by
    have hW := pv.2.2.1
    have h5 := hW.1.1
    have up := okp_un h5 h2
    show ∃ h', f_X10_rests_74_b N (f_X10_rests_74 N n) x _ _ _ _ _ _ _ _ h = _ ∧ _
    unfold f_X10_rests_74_b
    rw [ck_p ob.k9, ob.R8, rq_s, ck_p pv.1.1, vR_many pv.1, rq_s, ck_p (vK_many pv.1), vN_many pv.1, ck_p (by decide), pv.2.1.1 0 (by decide), if_neg (by rw [nI_ltI (by omega) (by omega)]; omega)]
    have first : rR A (ctB A S i k s t z) want (36 - 6 * un (aC A 0) P) (6 * un (aC A 0) P) c = rR A (ctB A S i k s t z) want (36 - (6 * un (aC A 0) P + un (aC A 0) 0)) (6 * un (aC A 0) P + un (aC A 0) 0) c := by
      by_cases z : aC A 0 = 0
      · have e0 : un (aC A 0) 0 = 5 := by unfold un; rw [if_pos z.symm]
        rw [e0]
        exact rR_q (by omega) (fun q q1 q2 => ctB_q q1 q2) 5 0 rfl (by omega)
      · have e0 : un (aC A 0) 0 = 0 := by unfold un; rw [if_neg (fun q => z q.symm)]
        rw [e0]
        rfl
    rw [first]
    refine c_r91 (N := N) hN hT hJ nb h2 (fun c g obg pg cSg => ?_) N 0 c h (by omega) (by omega) ob pv cS
    by_cases lt : P < aC A 0
    · obtain ⟨h', t1, t2⟩ := c_r74 hN hT hJ nb n (P + 1) c g (by omega) (by omega) obg pg cSg
      refine ⟨h', t1.trans ?_, t2⟩
      have eP : un (aC A 0) P = P := by unfold un; rw [if_neg (by omega)]
      rw [eP]
      by_cases e : P + 1 = aC A 0
      · have ep : un (aC A 0) (P + 1) = 5 := by unfold un; rw [if_pos e]
        rw [ep, rR_p (fun p q p1 p2 => ctB_p p1 p2) (30 - (6 * P + 6)) (6 * P + 6) (by omega) (by omega)]
      · have ep : un (aC A 0) (P + 1) = P + 1 := by unfold un; rw [if_neg e]
        rw [ep]
        rfl
    · have eP : P = aC A 0 := by omega
      obtain ⟨n, rfl⟩ : ∃ m, n = m + 1 := ⟨n - 1, by omega⟩
      have uP : un (aC A 0) P = 5 := by unfold un; rw [if_pos eP]
      rw [uP]
      show ∃ h', f_X10_rests_74_b N (f_X10_rests_74 N n) x _ _ _ _ _ _ _ _ g = _ ∧ _
      unfold f_X10_rests_74_b
      rw [ck_p obg.k9, obg.R8, rq_s, ck_p pg.1.1, vR_many pg.1, rq_s, ck_p (vK_many pg.1), vN_many pg.1, ck_p (by decide), pg.2.1.1 0 (by decide), if_pos (by rw [nI_ltI (by omega) (by omega)]; omega)]
      refine ⟨g, ?_, Gx.rf, pg⟩
      show (if want = -1 then some (some c, g) else some (none, g)) = some (if want = -1 then some c else none, g)
      by_cases e : want = -1
      · rw [if_pos e, if_pos e]
      · rw [if_neg e, if_neg e]
end RF
