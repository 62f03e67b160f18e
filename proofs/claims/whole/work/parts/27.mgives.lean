/-! What fires give, on the reference's side. -/
/-- the reference's own working rows -/
def inM (y z : Nat) : Prop := y + 17 ≤ z ∧ z ≤ y + 26
/-- a law's line is worth W of the five values laid ready, in any heap that has these codes -/
def MW (N : Nat) (h : PH) (y line : Nat) (W : Int32 → Int32 → Int32 → Int32 → Int32 → Int32) : Prop := ∀ h' : PH, hI h' (y + 12) line = hI h (y + 12) line → hI h' (y + 13) line = hI h (y + 13) line → (∀ k, k < 1000 → hI h' (y + 14) k = hI h (y + 14) k) → MD h' y → ∃ h'', f_X11_worked N y (nI line) h' = some (W (hI h' (y + 26) 1) (hI h' (y + 26) 2) (hI h' (y + 26) 3) (hI h' (y + 26) 4) (hI h' (y + 26) 5), h'') ∧ Ex (inM y) h' h''
/-- the reference's laws are worth what A says -/
def ML (N : Nat) (h : PH) (y : Nat) (A : AV) : Prop := ∃ (f0 t0 f1 t1 : Nat) (Wg Ws : Int32 → Int32 → Int32 → Int32 → Int32 → Int32), (t0 ≤ 2000 ∧ f0 ≤ 2000 ∧ t1 ≤ 2000 ∧ f1 ≤ 2000) ∧ hI h (y + 12) 0 = nI f0 ∧ hI h (y + 13) 0 = nI t0 ∧ hI h (y + 12) 1 = nI f1 ∧ hI h (y + 13) 1 = nI t1 ∧ (f0 < t0 → MW N h y 0 Wg) ∧ (f1 < t1 → MW N h y 1 Ws) ∧ (∀ f l w b, f < aC A 0 → l ≤ 9 → w ≤ 9 → b < 2 → aV A f l w b = clp (if t0 ≤ f0 then (if b = 0 then nI (aD A f) else nI (aS A f)) else Wg (nI (aD A f)) (nI (aS A f)) (nI w) (nI l) (nI b))) ∧ ∀ d s w x4 x5, d ≤ 999 → s ≤ 999 → w ≤ 9 → aO A d s w = clp (if t1 ≤ f1 then nI d else Ws (nI d) (nI s) (nI w) x4 x5)
/-- the reference's valley stands for A -/
def MA (N : Nat) (h : PH) (y : Nat) (A : AV) : Prop := MD h y ∧ MV h y A ∧ WV A ∧ ML N h y A
theorem MW.row {N : Nat} {h h' : PH} {y line : Nat} {W : Int32 → Int32 → Int32 → Int32 → Int32 → Int32} (e1 : hI h' (y + 12) = hI h (y + 12)) (e2 : hI h' (y + 13) = hI h (y + 13)) (e3 : hI h' (y + 14) = hI h (y + 14)) (p : MW N h y line W) : MW N h' y line W := fun g q1 q2 q3 q4 => p g (q1.trans (congrFun e1 line)) (q2.trans (congrFun e2 line)) (fun k hk => (q3 k hk).trans (congrFun e3 k)) q4
theorem MW.row2 {N : Nat} {h h' : PH} {y line : Nat} {W : Int32 → Int32 → Int32 → Int32 → Int32 → Int32} (e1 : hI h' (y + 12) line = hI h (y + 12) line) (e2 : hI h' (y + 13) line = hI h (y + 13) line) (e3 : ∀ k, k < 1000 → hI h' (y + 14) k = hI h (y + 14) k) (p : MW N h y line W) : MW N h' y line W := fun g q1 q2 q3 q4 => p g (q1.trans e1) (q2.trans e2) (fun k hk => (q3 k hk).trans (e3 k hk)) q4
theorem MA.ex {P : Nat → Prop} {N : Nat} {h h' : PH} {y : Nat} {A : AV} (x : Ex P h h') (hP : ∀ z, y + 2 ≤ z → z ≤ y + 14 → ¬ P z) (p : MA N h y A) : MA N h' y A := by
  have e : ∀ k, 2 ≤ k → k ≤ 14 → hI h' (y + k) = hI h (y + k) := fun k h1 h2 => x.2.2.2 _ (hP _ (by omega) (by omega))
  refine ⟨p.1.sm x.1, ?_, p.2.2.1, ?_⟩
  · have := p.2.1
    unfold MV at this ⊢
    rw [e 2 (by decide) (by decide), e 4 (by decide) (by decide), e 5 (by decide) (by decide), e 6 (by decide) (by decide), e 7 (by decide) (by decide), e 8 (by decide) (by decide), e 9 (by decide) (by decide), e 10 (by decide) (by decide), e 11 (by decide) (by decide)]
    exact this
  · obtain ⟨f0, t0, f1, t1, Wg, Ws, q1, q2, q3, q4, q5, q6, q7, q8⟩ := p.2.2.2
    have e1 := e 12 (by decide) (by decide)
    have e2 := e 13 (by decide) (by decide)
    have e3 := e 14 (by decide) (by decide)
    refine ⟨f0, t0, f1, t1, Wg, Ws, q1, ?_, ?_, ?_, ?_, fun c => (q6 c).row e1 e2 e3, fun c => (q7 c).row e1 e2 e3, q8⟩
    · rw [e1]; exact q2
    · rw [e2]; exact q3
    · rw [e1]; exact q4
    · rw [e2]; exact q5
theorem RS.ex {P : Nat → Prop} {h h' : PH} {r b : Nat} {S : AS} (x : Ex P h h') (hP : ¬ P r) (p : RS (hI h r) b S) : RS (hI h' r) b S := by rw [x.2.2.2 r hP]; exact p
section MG
variable {N : Nat} {A : AV} {S : AS} {J y : Nat} {h : PH}
theorem m_between (v : Int32) : f_X11_between N v 0 999 h = some (nI (clp v), h) := by
  unfold f_X11_between
  have h9 : (999 : Int32).toInt = 999 := by decide
  have h0 : (0 : Int32).toInt = 0 := by decide
  rcases clp_cases v with ⟨c, e⟩ | ⟨c, c2, e⟩ | ⟨c, e⟩
  · rw [e, if_neg (show ¬ (0 : Int32) ≤ v by rw [fa_le, h0]; omega)]
    rfl
  · rw [if_pos (show (0 : Int32) ≤ v by rw [fa_le, h0]; omega), if_pos (show v ≤ (999 : Int32) by rw [fa_le, h9]; omega), ← e]
  · rw [e, if_pos (show (0 : Int32) ≤ v by rw [fa_le, h0]; omega), if_neg (show ¬ v ≤ (999 : Int32) by rw [fa_le, h9]; omega)]
    rfl
theorem m_g95 (v : Int32) : f_X11_givesIn_95 N v h = some (nI (clp v), h) := by
  unfold f_X11_givesIn_95
  rw [m_between, cl_s]
theorem m_g21 (p : MA N h y A) {f l t b : Nat} (hf : f < aC A 0) (hl : l ≤ 9) (ht : t < 2 ^ 31) (hb : b < 2) : ∃ h', f_X11_givesIn_21 N (if b = 0 then nI (aD A f) else nI (aS A f)) y (nI f) (nI l) (nI t) (nI b) h = some (nI (aV A f l (aWind A t) b), h') ∧ Ex (inM y) h h' := by
  obtain ⟨m, hC, hW, f0, t0, f1, t1, Wg, Ws, q1, q2, q3, q4, q5, q6, q7, q8, q9⟩ := id p
  have h5 := hW.1.1
  have e := q8 f l (aWind A t) b hf hl (aWind_le hW t) hb
  unfold f_X11_givesIn_21
  rw [ck_p m.1, mR_lineTo m, rq_s, ck_p (mK_lineTo m), mN_lineTo m, ck_p (by decide), mR_lineFrom m, rq_s, ck_p (mK_lineFrom m), mN_lineFrom m, ck_p (by decide), q2, q3, ite_i (nI_leI (by omega) (by omega))]
  by_cases c : t0 ≤ f0
  · rw [if_pos c] at e
    rw [if_pos c, m_g95, ← e]
    exact ⟨h, rfl, Ex.rf⟩
  · rw [if_neg c] at e
    rw [if_neg c]
    have hi : inb (nI f) 10 := nI_ix (by omega) (by omega)
    have hx : ix (nI f) = f := ix_nI (by omega)
    have mm : inM y (y + 26) := ⟨by omega, by omega⟩
    rw [mR_valueOf m, rq_s, mR_fuelDark m, rq_s, ck_p (mK_fuelDark m), mN_fuelDark m, ck_p hi, ck_p (mK_valueOf m), mN_valueOf m, ck_p (by decide), hx, (hC.2.1 f hf).1, bd_e]
    have x1 : Ex (inM y) h (sI h (y + 26) 1 (nI (aD A f))) := Ex.sI mm
    generalize hh1 : sI h (y + 26) 1 (nI (aD A f)) = ha at x1 ⊢
    have ea : hI ha (y + 26) 1 = nI (aD A f) := by rw [← hh1, hI_sI_eq, va_eq]
    have pa := p.ex x1 (fun z z1 z2 z3 => by unfold inM at z3; omega)
    have ma := pa.1
    rw [ck_p ma.1, mR_valueOf ma, rq_s, mR_fuelSweet ma, rq_s, ck_p (mK_fuelSweet ma), mN_fuelSweet ma, ck_p hi, ck_p (mK_valueOf ma), mN_valueOf ma, ck_p (by decide), (pa.2.1.2.1 f hf).2.1, bd_e]
    have x2 : Ex (inM y) ha (sI ha (y + 26) 2 (nI (aS A f))) := Ex.sI mm
    generalize hh2 : sI ha (y + 26) 2 (nI (aS A f)) = hb' at x2 ⊢
    have eb1 : hI hb' (y + 26) 1 = nI (aD A f) := by rw [← hh2, hI_sI_eq, va_ne (by decide), ea]
    have eb2 : hI hb' (y + 26) 2 = nI (aS A f) := by rw [← hh2, hI_sI_eq, va_eq]
    have pb := pa.ex x2 (fun z z1 z2 z3 => by unfold inM at z3; omega)
    have mb := pb.1
    rw [ck_p mb.1, mR_valueOf mb, rq_s, m_windIn mb pb.2.1 hW ht, cl_s, ck_p (mK_valueOf mb), mN_valueOf mb, ck_p (by decide), bd_e]
    have x3 : Ex (inM y) hb' (sI hb' (y + 26) 3 (nI (aWind A t))) := Ex.sI mm
    generalize hh3 : sI hb' (y + 26) 3 (nI (aWind A t)) = hc at x3 ⊢
    have ec1 : hI hc (y + 26) 1 = nI (aD A f) := by rw [← hh3, hI_sI_eq, va_ne (by decide), eb1]
    have ec2 : hI hc (y + 26) 2 = nI (aS A f) := by rw [← hh3, hI_sI_eq, va_ne (by decide), eb2]
    have ec3 : hI hc (y + 26) 3 = nI (aWind A t) := by rw [← hh3, hI_sI_eq, va_eq]
    have pc := pb.ex x3 (fun z z1 z2 z3 => by unfold inM at z3; omega)
    have mc := pc.1
    rw [ck_p mc.1, mR_valueOf mc, rq_s, ck_p (mK_valueOf mc), mN_valueOf mc, ck_p (by decide), bd_e]
    have x4 : Ex (inM y) hc (sI hc (y + 26) 4 (nI l)) := Ex.sI mm
    generalize hh4 : sI hc (y + 26) 4 (nI l) = hd at x4 ⊢
    have ed1 : hI hd (y + 26) 1 = nI (aD A f) := by rw [← hh4, hI_sI_eq, va_ne (by decide), ec1]
    have ed2 : hI hd (y + 26) 2 = nI (aS A f) := by rw [← hh4, hI_sI_eq, va_ne (by decide), ec2]
    have ed3 : hI hd (y + 26) 3 = nI (aWind A t) := by rw [← hh4, hI_sI_eq, va_ne (by decide), ec3]
    have ed4 : hI hd (y + 26) 4 = nI l := by rw [← hh4, hI_sI_eq, va_eq]
    have pd := pc.ex x4 (fun z z1 z2 z3 => by unfold inM at z3; omega)
    have md := pd.1
    rw [ck_p md.1, mR_valueOf md, rq_s, ck_p (mK_valueOf md), mN_valueOf md, ck_p (by decide), bd_e]
    have x5 : Ex (inM y) hd (sI hd (y + 26) 5 (nI b)) := Ex.sI mm
    generalize hh5 : sI hd (y + 26) 5 (nI b) = he at x5 ⊢
    have ee1 : hI he (y + 26) 1 = nI (aD A f) := by rw [← hh5, hI_sI_eq, va_ne (by decide), ed1]
    have ee2 : hI he (y + 26) 2 = nI (aS A f) := by rw [← hh5, hI_sI_eq, va_ne (by decide), ed2]
    have ee3 : hI he (y + 26) 3 = nI (aWind A t) := by rw [← hh5, hI_sI_eq, va_ne (by decide), ed3]
    have ee4 : hI he (y + 26) 4 = nI l := by rw [← hh5, hI_sI_eq, va_ne (by decide), ed4]
    have ee5 : hI he (y + 26) 5 = nI b := by rw [← hh5, hI_sI_eq, va_eq]
    have pe := pd.ex x5 (fun z z1 z2 z3 => by unfold inM at z3; omega)
    have xx := (((x1.trans x2).trans x3).trans x4).trans x5
    obtain ⟨hg, w1, w2⟩ := q6 (by omega) he (congrFun (xx.2.2.2 _ (by unfold inM; omega)) 0) (congrFun (xx.2.2.2 _ (by unfold inM; omega)) 0) (fun k _ => congrFun (xx.2.2.2 _ (by unfold inM; omega)) k) pe.1
    have w1 : f_X11_worked N y 0 he = _ := w1
    rw [ck_p pe.1.1, w1, cl_s, m_g95, ee1, ee2, ee3, ee4, ee5, ← e]
    exact ⟨hg, rfl, xx.trans w2⟩
theorem m_givesIn (p : MA N h y A) {f l t b : Nat} (hf : f < aC A 0) (hl : l ≤ 9) (ht : t < 2 ^ 31) (hb : b < 2) : ∃ h', f_X11_givesIn N y (nI f) (nI l) (nI t) (nI b) h = some (nI (aV A f l (aWind A t) b), h') ∧ Ex (inM y) h h' := by
  have k := m_g21 p hf hl ht hb
  obtain ⟨m, hC, hW, _⟩ := id p
  have h5 := hW.1.1
  have hi : inb (nI f) 10 := nI_ix (by omega) (by omega)
  have hx : ix (nI f) = f := ix_nI (by omega)
  unfold f_X11_givesIn
  by_cases c : b = 0
  · rw [if_pos c] at k
    rw [if_neg (show ¬ nI b = (1 : Int32) by rw [c]; decide), ck_p m.1, mR_fuelDark m, rq_s, ck_p (mK_fuelDark m), mN_fuelDark m, ck_p hi, hx, (hC.2.1 f hf).1]
    exact k
  · rw [if_neg c] at k
    rw [if_pos (show nI b = (1 : Int32) by rw [show b = 1 by omega]; rfl), ck_p m.1, mR_fuelSweet m, rq_s, ck_p (mK_fuelSweet m), mN_fuelSweet m, ck_p hi, hx, (hC.2.1 f hf).2.1]
    exact k
theorem m_fireGives (p : MA N h y A) (hS : RS (hI h (y + 37)) 0 S) (hT : WS A J S) (hJ : J < 2 ^ 30) {i b : Nat} (hi : i < 4) (hb : b < 2) : ∃ h', f_X11_fireGives N y (nI i) (nI b) h = some (nI (gv A (tF S i) (tL S i) (aWind A (tH S)) b), h') ∧ Ex (inM y) h h' := by
  obtain ⟨m, hC, hW, _⟩ := id p
  have hl := hT.2.1 i hi
  have ht := hT.1
  unfold f_X11_fireGives gv
  rw [ck_p m.1, m_isFire m hS hT hi, cl_s]
  by_cases c : 0 < tL S i
  · have e1 := hS.2.1 i hi
    have e5 := hS.2.2.1 i hi
    have e0 := hS.1
    rw [Nat.zero_add] at e1 e5
    have n1 : (1 : Int32) + nI i = nI (1 + i) := nI_add 1 i
    have n5 : (5 : Int32) + nI i = nI (5 + i) := nI_add 5 i
    obtain ⟨f, hf⟩ : ∃ f, tF S i = f + 1 := ⟨tF S i - 1, by omega⟩
    rw [if_neg (fun z => yes0.mp z c), ck_p m.1, mR_s m, rq_s, ck_p (mK_s m), mN_s m, n1, n5, ck_p (nI_ix (by omega) (by omega)), rq_s, ck_p (mK_s m), mN_s m, ck_p (nI_ix (by omega) (by omega)), rq_s, ck_p (mK_s m), mN_s m, ck_p (by decide), ix_nI (by omega), ix_nI (by omega), e1, e5, e0, hf, pk_m1, if_neg (by omega)]
    obtain ⟨h', r1, r2⟩ := m_givesIn p (f := f) (l := tL S i) (t := tH S) (by omega) hl.1 (by omega) hb
    rw [r1, cl_s]
    exact ⟨h', rfl, r2⟩
  · rw [if_pos (yes0.mpr c), if_pos (by omega)]
    exact ⟨h, rfl, Ex.rf⟩
end MG
