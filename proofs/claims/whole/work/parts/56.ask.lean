/-! The duty of ask. -/
def kG (A : AV) (S : AS) (f g : Nat) (u : Nat → Nat) : Nat := if g = 2 then sK A S f u else sb A S u f g
/-- how many ways look the most alike from w, of the flue f -/
def mW (A : AV) (S : AS) (R : AR) (w f : Nat) : Nat := mx (kA A S w f) (GL A S R)
def ak1 (m : Nat → Nat) (w : Nat) : Nat → Nat → Nat × Int32 → Nat × Int32
  | 0, _, s => s
  | n + 1, f, s => ak1 m w n (f + 1) (if m f < s.1 then (m f, nI (3 * w + f)) else s)
def ak2 (m : Nat → Nat → Nat) (F : Nat) : Nat → Nat → Nat × Int32 → Nat × Int32
  | 0, _, s => s
  | n + 1, w, s => ak2 m F n (w + 1) (ak1 (m w) w F 0 s)
theorem ak1_le {m : Nat → Nat} {w b : Nat} (hm : ∀ f, m f ≤ b) : ∀ n f s, s.1 ≤ b → (ak1 m w n f s).1 ≤ b
  | 0, _, _, h => h
  | n + 1, f, s, h => by
    refine ak1_le hm n (f + 1) _ ?_
    by_cases c : m f < s.1
    · rw [if_pos c]; exact hm f
    · rw [if_neg c]; exact h
/-- what the class lays ready: how many ways a flue's houses have, and how many of them look the most alike -/
def AK (A : AV) (S : AS) (R : AR) (h : PH) (a b f : Nat) : Prop := (hK h a = 12 ∧ hN h a = 3 ∧ hK h b = 12 ∧ hN h b = 9) ∧ ∀ g, g < f → hI h a g = nI (FL A S R g).length ∧ ∀ k, k < 3 → hI h b (3 * g + k) = nI (mx (kG A S g k) (FL A S R g))
section AK
variable {N x y o J : Nat} {A : AV} {S : AS} {R : AR}
theorem mW_le (w f : Nat) : mW A S R w f ≤ 1296 := Nat.le_trans (mx_le _) GL_le
theorem sb_ne {f g b j c : Nat} {u : Nat → Nat} (h : aF A j ≠ f) : kG A S f g (va_up u j c) = kG A S f g u := by
  unfold kG sK
  rw [sb_ind h, sb_ind h, sb_ind h]
theorem mW_eq (hW : WV A) (wR : WR A R) {w f : Nat} (hf : f < 3) : mW A S R w f = mx (kG A S f (aG A w)) (FL A S R f) * (if (FL A S R f).length = 0 then 0 else (GL A S R).length / (FL A S R f).length) := by
  have e1 : mW A S R w f = mx (kG A S f (aG A w)) (GL A S R) := by
    refine (mx_key (fun u v => ?_) _).1
    unfold kA kG
    by_cases g : aG A w = 2
    · rw [if_pos g, if_pos g, if_pos g, if_pos g]
      by_cases a : sK A S f u = 6
      · rw [if_pos a]
        by_cases b : sK A S f v = 6
        · rw [if_pos b, a, b]; simp
        · rw [if_neg b, a]
          constructor
          · intro z; omega
          · intro z; omega
      · rw [if_neg a]
        by_cases b : sK A S f v = 6
        · rw [if_pos b, b]
          constructor
          · intro z; omega
          · intro z; omega
        · rw [if_neg b]
          constructor
          · intro z; omega
          · intro z; omega
    · rw [if_neg g, if_neg g, if_neg g, if_neg g]
  obtain ⟨a, b, ha, hb, h1, h2, h3⟩ : ∃ a b, a < 3 ∧ b < 3 ∧ f ≠ a ∧ f ≠ b ∧ a ≠ b := by
    rcases (show f = 0 ∨ f = 1 ∨ f = 2 by omega) with e | e | e
    · exact ⟨1, 2, by omega, by omega, by omega, by omega, by omega⟩
    · exact ⟨0, 2, by omega, by omega, by omega, by omega, by omega⟩
    · exact ⟨0, 1, by omega, by omega, by omega, by omega, by omega⟩
  have ln := GL_len (S := S) wR hW hf ha hb h1 h2 h3
  rw [e1, mx_mul (fun d => GL_cn (S := S) wR hW hf ha hb h1 h2 h3 (key := kG A S f (aG A w)) (fun j hj u c => sb_ne (b := 0) hj) d)]
  by_cases z : (FL A S R f).length = 0
  · have e : FL A S R f = [] := List.length_eq_zero_iff.mp z
    rw [if_pos z, e]
    show 0 * _ = 0 * 0
    rw [Nat.zero_mul]
  · rw [if_neg z, ln, Nat.mul_div_cancel_left _ (by omega)]
theorem AK.kx {P : Nat → Prop} {h h' : PH} {a b f : Nat} (g : Kx x P h h') (ha : P a) (hb : P b) (la : a < hz h) (lb : b < hz h) (p : AK A S R h a b f) : AK A S R h' a b f := by
  obtain ⟨⟨p1, p2, p3, p4⟩, p5⟩ := p
  refine ⟨⟨(g.1.2.2.1 a la).1.trans p1, (g.1.2.2.1 a la).2.trans p2, (g.1.2.2.1 b lb).1.trans p3, (g.1.2.2.1 b lb).2.trans p4⟩, ?_⟩
  rw [(g.2 a ha).1, (g.2 b hb).1]
  exact p5
def akP (x v a b z : Nat) : Prop := ¬ wkR x v z ∧ z ≠ a ∧ z ≠ b
theorem c_ak25 (hN2 : 5000 ≤ N) (hJ : J < 2 ^ 30) {v w : Nat} {M : AM} (wM : WM A J M) (hW : WV A) : ∀ (n f : Nat) (h : PH), aC A 1 < n + f → f ≤ aC A 1 → OB h x v w → VA h v A → CM h (x + 3) M → AK A M.1 M.2.2 h (x + 41) (x + 42) f → ∃ h', f_X10_ask_14 N n x (nI (aC A 1)) (nI (pF A M.1 M.2.2 f)) (nI f) h = f_X10_ask_123 N N x (nI (aC A 1)) (nI (GL A M.1 M.2.2).length) (nI (GL A M.1 M.2.2).length) (-1) 0 h' ∧ Kx x (akP x v (x + 41) (x + 42)) h h' ∧ VA h' v A ∧ AK A M.1 M.2.2 h' (x + 41) (x + 42) (aC A 1)
  | 0, f, h, h1, h2, _, _, _, _ => by omega
  | n + 1, f, h, h1, h2, ob, pv, cM, ak => by
    have lz := ob.2.1
    have h3 := hW.1.2.1
    have vw := ob.1
    have wR := wM.2.2
    show ∃ h', f_X10_ask_14_b N (f_X10_ask_14 N n) x _ _ _ h = _ ∧ _
    unfold f_X10_ask_14_b
    rw [ite_i (nI_leI (by omega) (by omega))]
    by_cases c : aC A 1 ≤ f
    · have e : f = aC A 1 := by omega
      subst e
      rw [if_pos c, pF_GL hW wR]
      exact ⟨h, rfl, Kx.rf, pv, ak⟩
    · obtain ⟨g, r1, k1, pg, wa, -, -⟩ := c_byRead (N := N) hN2 ob pv cM wM hJ (show f < aC A 1 by omega)
      have ob1 := ob.shp k1.1
      have lz1 := ob1.2.1
      have ak1' : AK A M.1 M.2.2 g (x + 41) (x + 42) f := ak.kx k1 (by unfold wkR; omega) (by unfold wkR; omega) (by omega) (by omega)
      have i0 : nI f * (3 : Int32) + 0 = nI (3 * f) := by
        rw [show (3 : Int32) = nI 3 from rfl, pk_mul, show (0 : Int32) = nI 0 from rfl, nI_add, Nat.mul_comm, Nat.add_zero]
      have i1 : nI f * (3 : Int32) + 1 = nI (3 * f + 1) := by
        rw [show (3 : Int32) = nI 3 from rfl, pk_mul, show (1 : Int32) = nI 1 from rfl, nI_add, Nat.mul_comm]
      have i2 : nI f * (3 : Int32) + 2 = nI (3 * f + 2) := by
        rw [show (3 : Int32) = nI 3 from rfl, pk_mul, show (2 : Int32) = nI 2 from rfl, nI_add, Nat.mul_comm]
      have ep : nI (pF A M.1 M.2.2 f) * nI (FL A M.1 M.2.2 f).length = nI (pF A M.1 M.2.2 (f + 1)) := pk_mul _ _
      obtain ⟨w13, -, -, -, w14, w15, w16, -⟩ := wa
      obtain ⟨⟨ka, na, kb, nb⟩, rows⟩ := ak1'
      -- the four cells
      have E2 : Ex (fun z => z = x + 41 ∨ z = x + 42) g (sI g (x + 41) f (nI (FL A M.1 M.2.2 f).length)) := Ex.sI (Or.inl rfl)
      have f2 : hI (sI g (x + 41) f (nI (FL A M.1 M.2.2 f).length)) (x + 41) = va_up (hI g (x + 41)) f (nI (FL A M.1 M.2.2 f).length) := hI_sI_eq
      have f2b : hI (sI g (x + 41) f (nI (FL A M.1 M.2.2 f).length)) (x + 42) = hI g (x + 42) := hI_sI_ne (by omega)
      rw [if_neg c, ck_p ob.k9, ob.R6, rq_s, ob.R8, rq_s, ob.R1, rq_s, ck_p ob.wk.1, r1, cl_s, i0, i1, i2, ck_p ob1.k9, ob1.fw.1.1, rq_s, ob1.R6, rq_s, ck_p ob1.wk.1, ck_p ka, na, ck_p (nI_ix (by omega) (by decide)), ix_nI (by omega), w13, bd_e]
      generalize sI g (x + 41) f (nI (FL A M.1 M.2.2 f).length) = g2 at E2 f2 f2b
      have ob2 := ob1.shp (x := x) E2.shp
      have s2 : hI g2 (x + 23) = hI g (x + 23) := E2.2.2.2 _ (by omega)
      have kb2 : hK g2 (x + 42) = 12 := by rw [E2.1.1]; exact kb
      have nb2 : hN g2 (x + 42) = 9 := by rw [E2.1.2.1]; exact nb
      have E3 : Ex (fun z => z = x + 41 ∨ z = x + 42) g2 (sI g2 (x + 42) (3 * f) (nI (mx (kG A M.1 f 0) (FL A M.1 M.2.2 f)))) := Ex.sI (Or.inr rfl)
      have f3 : hI (sI g2 (x + 42) (3 * f) (nI (mx (kG A M.1 f 0) (FL A M.1 M.2.2 f)))) (x + 42) = va_up (hI g2 (x + 42)) (3 * f) (nI (mx (kG A M.1 f 0) (FL A M.1 M.2.2 f))) := hI_sI_eq
      have f3a : hI (sI g2 (x + 42) (3 * f) (nI (mx (kG A M.1 f 0) (FL A M.1 M.2.2 f)))) (x + 41) = hI g2 (x + 41) := hI_sI_ne (by omega)
      have w14' : hI g2 (x + 23) 14 = nI (mx (kG A M.1 f 0) (FL A M.1 M.2.2 f)) := by rw [s2]; exact w14
      rw [ck_p ob2.k9, ob2.fw.1.2, rq_s, ob2.R6, rq_s, ck_p ob2.wk.1, ck_p kb2, nb2, ck_p (nI_ix (show 3 * f < 9 by omega) (by decide)), ix_nI (show 3 * f < 2 ^ 31 by omega), w14', bd_e]
      generalize sI g2 (x + 42) (3 * f) (nI (mx (kG A M.1 f 0) (FL A M.1 M.2.2 f))) = g3 at E3 f3 f3a
      have ob3 := ob2.shp (x := x) E3.shp
      have s3 : hI g3 (x + 23) = hI g (x + 23) := (E3.2.2.2 _ (by omega)).trans s2
      have kb3 : hK g3 (x + 42) = 12 := by rw [E3.1.1]; exact kb2
      have nb3 : hN g3 (x + 42) = 9 := by rw [E3.1.2.1]; exact nb2
      have E4 : Ex (fun z => z = x + 41 ∨ z = x + 42) g3 (sI g3 (x + 42) (3 * f + 1) (nI (mx (kG A M.1 f 1) (FL A M.1 M.2.2 f)))) := Ex.sI (Or.inr rfl)
      have f4 : hI (sI g3 (x + 42) (3 * f + 1) (nI (mx (kG A M.1 f 1) (FL A M.1 M.2.2 f)))) (x + 42) = va_up (hI g3 (x + 42)) (3 * f + 1) (nI (mx (kG A M.1 f 1) (FL A M.1 M.2.2 f))) := hI_sI_eq
      have f4a : hI (sI g3 (x + 42) (3 * f + 1) (nI (mx (kG A M.1 f 1) (FL A M.1 M.2.2 f)))) (x + 41) = hI g3 (x + 41) := hI_sI_ne (by omega)
      have w15' : hI g3 (x + 23) 15 = nI (mx (kG A M.1 f 1) (FL A M.1 M.2.2 f)) := by rw [s3]; exact w15
      rw [ck_p ob3.k9, ob3.fw.1.2, rq_s, ob3.R6, rq_s, ck_p ob3.wk.1, ck_p kb3, nb3, ck_p (nI_ix (show 3 * f + 1 < 9 by omega) (by decide)), ix_nI (show 3 * f + 1 < 2 ^ 31 by omega), w15', bd_e]
      generalize sI g3 (x + 42) (3 * f + 1) (nI (mx (kG A M.1 f 1) (FL A M.1 M.2.2 f))) = g4 at E4 f4 f4a
      have ob4 := ob3.shp (x := x) E4.shp
      have s4 : hI g4 (x + 23) = hI g (x + 23) := (E4.2.2.2 _ (by omega)).trans s3
      have kb4 : hK g4 (x + 42) = 12 := by rw [E4.1.1]; exact kb3
      have nb4 : hN g4 (x + 42) = 9 := by rw [E4.1.2.1]; exact nb3
      have E5 : Ex (fun z => z = x + 41 ∨ z = x + 42) g4 (sI g4 (x + 42) (3 * f + 2) (nI (mx (kG A M.1 f 2) (FL A M.1 M.2.2 f)))) := Ex.sI (Or.inr rfl)
      have f5 : hI (sI g4 (x + 42) (3 * f + 2) (nI (mx (kG A M.1 f 2) (FL A M.1 M.2.2 f)))) (x + 42) = va_up (hI g4 (x + 42)) (3 * f + 2) (nI (mx (kG A M.1 f 2) (FL A M.1 M.2.2 f))) := hI_sI_eq
      have f5a : hI (sI g4 (x + 42) (3 * f + 2) (nI (mx (kG A M.1 f 2) (FL A M.1 M.2.2 f)))) (x + 41) = hI g4 (x + 41) := hI_sI_ne (by omega)
      have w16' : hI g4 (x + 23) 16 = nI (mx (kG A M.1 f 2) (FL A M.1 M.2.2 f)) := by rw [s4]; exact w16
      rw [ck_p ob4.k9, ob4.fw.1.2, rq_s, ob4.R6, rq_s, ck_p ob4.wk.1, ck_p kb4, nb4, ck_p (nI_ix (show 3 * f + 2 < 9 by omega) (by decide)), ix_nI (show 3 * f + 2 < 2 ^ 31 by omega), w16', bd_e]
      generalize sI g4 (x + 42) (3 * f + 2) (nI (mx (kG A M.1 f 2) (FL A M.1 M.2.2 f))) = g5 at E5 f5 f5a
      have ob5 := ob4.shp (x := x) E5.shp
      have s5 : hI g5 (x + 23) = hI g (x + 23) := (E5.2.2.2 _ (by omega)).trans s4
      have w13' : hI g5 (x + 23) 13 = nI (FL A M.1 M.2.2 f).length := by rw [s5]; exact w13
      rw [ck_p ob5.k9, ob5.R6, rq_s, ck_p ob5.wk.1, w13', ep, bd_e, bd_e, nI_1]
      have EE := ((E2.trans E3).trans E4).trans E5
      have kk : Kx x (akP x v (x + 41) (x + 42)) g g5 := EE.kx (fun z hz => by unfold akP at hz; omega)
      have k0 : Kx x (akP x v (x + 41) (x + 42)) h g5 := (k1.mono (fun z hz => hz.1)).trans kk
      have pg5 := pg.ex EE (fun z z1 z2 => by omega)
      have ea : hI g5 (x + 41) = va_up (hI g (x + 41)) f (nI (FL A M.1 M.2.2 f).length) := by rw [f5a, f4a, f3a, f2]
      have eb : hI g5 (x + 42) = va_up (va_up (va_up (hI g (x + 42)) (3 * f) (nI (mx (kG A M.1 f 0) (FL A M.1 M.2.2 f)))) (3 * f + 1) (nI (mx (kG A M.1 f 1) (FL A M.1 M.2.2 f)))) (3 * f + 2) (nI (mx (kG A M.1 f 2) (FL A M.1 M.2.2 f))) := by rw [f5, f4, f3, f2b]
      have ak5 : AK A M.1 M.2.2 g5 (x + 41) (x + 42) (f + 1) := by
        refine ⟨⟨by rw [EE.1.1]; exact ka, by rw [EE.1.2.1]; exact na, by rw [EE.1.1]; exact kb, by rw [EE.1.2.1]; exact nb⟩, fun q hq => ?_⟩
        rw [ea, eb]
        by_cases c : q = f
        · subst c
          refine ⟨va_eq, fun k hk => ?_⟩
          rcases (show k = 0 ∨ k = 1 ∨ k = 2 by omega) with e | e | e
          · rw [e, va_ne (by omega), va_ne (by omega), show 3 * q + 0 = 3 * q from rfl, va_eq]
          · rw [e, va_ne (by omega), va_eq]
          · rw [e, va_eq]
        · obtain ⟨t1, t2⟩ := rows q (by omega)
          refine ⟨by rw [va_ne c]; exact t1, fun k hk => ?_⟩
          rw [va_ne (by omega), va_ne (by omega), va_ne (by omega)]
          exact t2 k hk
      obtain ⟨h', t1, t2, t3, t4⟩ := c_ak25 hN2 hJ wM hW n (f + 1) g5 (by omega) (by omega) ob5 pg5 (cM.kx k0 (fun z z1 z2 => by unfold akP wkR; omega)) ak5
      exact ⟨h', t1, k0.trans t2, t3, t4⟩
theorem c_ak149 {K : Nat → Int32 → Int32 → Int32 → Int32 → Int32 → PH → Option (Int32 × PH)} {v w' w : Nat} {h : PH} (ob : OB h x v w') (pv : VA h v A) (wR : WR A R) (ak : AK A S R h (x + 41) (x + 42) (aC A 1)) (hw : w < aC A 4) : ∀ (n f : Nat) (s : Nat × Int32), aC A 1 < n + f → f ≤ aC A 1 → s.1 ≤ 1296 → f_X10_ask_140 N K n x (nI (aC A 1)) (nI (GL A S R).length) (nI s.1) s.2 (nI w) (nI f) h = K x (nI (aC A 1)) (nI (GL A S R).length) (nI (ak1 (mW A S R w) w (aC A 1 - f) f s).1) (ak1 (mW A S R w) w (aC A 1 - f) f s).2 (nI (w + 1)) h
  | 0, f, s, h1, h2, _ => by omega
  | n + 1, f, s, h1, h2, hs => by
    have hW := pv.2.2.1
    have h3 := hW.1.2.1
    have h8 := hW.1.2.2.2.2.1
    have hg := hW.2.2.2.2.2.2.1 w hw
    have gl := GL_le (A := A) (S := S) (R := R)
    have fl := FL_le (A := A) (S := S) (R := R) f
    have ml := mW_le (A := A) (S := S) (R := R) w f
    obtain ⟨⟨ka, na, kb, nb⟩, rows⟩ := id ak
    show f_X10_ask_140_b N K (f_X10_ask_140 N K n) x _ _ _ _ _ _ h = _
    unfold f_X10_ask_140_b
    rw [ite_i (nI_leI (by omega) (by omega))]
    by_cases c : aC A 1 ≤ f
    · rw [if_pos c, bd_e, nI_1, show aC A 1 - f = 0 by omega]
      rfl
    · obtain ⟨t1, t2⟩ := rows f (by omega)
      have e173 : ∀ k : Nat, mx (kG A S f (aG A w)) (FL A S R f) * k = mW A S R w f → f_X10_ask_169 N K (f_X10_ask_140 N K n) (nI k) x (nI (aC A 1)) (nI (GL A S R).length) (nI s.1) s.2 (nI w) (nI f) h = K x (nI (aC A 1)) (nI (GL A S R).length) (nI (ak1 (mW A S R w) w (aC A 1 - f) f s).1) (ak1 (mW A S R w) w (aC A 1 - f) f s).2 (nI (w + 1)) h := fun k hk => by
        have i1 : nI f * (3 : Int32) + nI (aG A w) = nI (3 * f + aG A w) := by
          rw [show (3 : Int32) = nI 3 from rfl, pk_mul, nI_add, Nat.mul_comm]
        have i2 : nI w * (3 : Int32) + nI f = nI (3 * w + f) := by
          rw [show (3 : Int32) = nI 3 from rfl, pk_mul, nI_add, Nat.mul_comm]
        unfold f_X10_ask_169 f_X10_ask_214
        rw [ck_p ob.k9, ob.fw.1.2, rq_s, ob.R8, rq_s, ck_p pv.1.1, vR_sights pv.1, rq_s, ck_p (vK_sights pv.1), vN_sights pv.1, ck_p (nI_ix (by omega) (by decide)), ck_p kb, nb, ix_nI (show w < 2 ^ 31 by omega), show hI h (v + 9) w = nI (aG A w) from pv.2.1.2.2.2.2.2.2.1 w hw, i1, ck_p (nI_ix (by omega) (by decide)), ix_nI (by omega), t2 _ (by omega), pk_mul, hk, bd_e, i2, ite_i (nI_leI (a := s.1) (b := mW A S R w f) (by omega) (by omega)), bd_e, bd_e, bd_e, nI_1, show aC A 1 - f = (aC A 1 - (f + 1)) + 1 by omega]
        show _ = K x (nI (aC A 1)) (nI (GL A S R).length) (nI (ak1 (mW A S R w) w (aC A 1 - (f + 1)) (f + 1) (if mW A S R w f < s.1 then (mW A S R w f, nI (3 * w + f)) else s)).1) (ak1 (mW A S R w) w (aC A 1 - (f + 1)) (f + 1) (if mW A S R w f < s.1 then (mW A S R w f, nI (3 * w + f)) else s)).2 (nI (w + 1)) h
        by_cases q : s.1 ≤ mW A S R w f
        · rw [if_pos q, if_neg (by omega)]
          exact c_ak149 ob pv wR ak hw n (f + 1) s (by omega) (by omega) hs
        · rw [if_neg q, if_pos (by omega)]
          exact c_ak149 ob pv wR ak hw n (f + 1) (mW A S R w f, nI (3 * w + f)) (by omega) (by omega) ml
      have em := mW_eq (S := S) hW wR (w := w) (show f < 3 by omega)
      rw [if_neg c, ck_p ob.k9, ob.fw.1.1, rq_s, ck_p ka, na, ck_p (nI_ix (by omega) (by decide)), ix_nI (show f < 2 ^ 31 by omega), t1, ite_i (show nI (FL A S R f).length ≤ 0 ↔ (FL A S R f).length ≤ 0 from nI_leI (b := 0) (by omega) (by decide))]
      by_cases z : (FL A S R f).length ≤ 0
      · rw [if_pos (show (FL A S R f).length = 0 by omega)] at em
        rw [if_pos z]
        exact e173 0 em.symm
      · rw [if_neg (show ¬ (FL A S R f).length = 0 by omega)] at em
        rw [if_neg z, rq_s, ck_p ka, na, ck_p (nI_ix (by omega) (by decide)), t1, ck_p (nI_ne0 (by omega) (by omega)), pk_div (by omega) (by omega) (by omega)]
        exact e173 _ em.symm
theorem c_ak132 {v w' : Nat} {h : PH} (ob : OB h x v w') (pv : VA h v A) (wR : WR A R) (ak : AK A S R h (x + 41) (x + 42) (aC A 1)) (hN : 10 ≤ N) : ∀ (n w : Nat) (s : Nat × Int32), aC A 4 < n + w → w ≤ aC A 4 → s.1 ≤ 1296 → f_X10_ask_123 N n x (nI (aC A 1)) (nI (GL A S R).length) (nI s.1) s.2 (nI w) h = some ((ak2 (mW A S R) (aC A 1) (aC A 4 - w) w s).2, h)
  | 0, w, s, h1, h2, _ => by omega
  | n + 1, w, s, h1, h2, hs => by
    have hW := pv.2.2.1
    have h3 := hW.1.2.1
    have h8 := hW.1.2.2.2.2.1
    show f_X10_ask_123_b N (f_X10_ask_123 N n) x _ _ _ _ _ h = _
    unfold f_X10_ask_123_b
    rw [ck_p ob.k9, ob.R8, rq_s, ck_p pv.1.1, vR_many pv.1, rq_s, ck_p (vK_many pv.1), vN_many pv.1, ck_p (by decide), pv.2.1.1 4 (by decide), ite_i (nI_leI (by omega) (by omega))]
    by_cases c : aC A 4 ≤ w
    · rw [if_pos c, show aC A 4 - w = 0 by omega]
      rfl
    · have q := c_ak149 (N := N) (K := f_X10_ask_123 N n) ob pv wR ak (show w < aC A 4 by omega) N 0 s (by omega) (by omega) hs
      rw [Nat.sub_zero] at q
      rw [if_neg c, show aC A 4 - w = (aC A 4 - (w + 1)) + 1 by omega]
      refine q.trans ?_
      exact c_ak132 ob pv wR ak hN n (w + 1) (ak1 (mW A S R w) w (aC A 1) 0 s) (by omega) (by omega) (ak1_le (fun f => mW_le w f) _ _ _ hs)
end AK
