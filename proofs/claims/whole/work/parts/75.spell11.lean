/-! The duty of spell, the class's side: what the search looks at; a show's smoke is kept. -/
def SB (A : AV) (S : AS) (x v : Nat) (h : PH) : Prop := SP h (x + 31) ∧ (hR h (x + 31) 9 = some v ∧ hR h (x + 31) 10 = some (x + 3 + 1)) ∧ VA h v A ∧ ST h (x + 3 + 1) ∧ CS h (x + 3 + 1) S
/-- the search's own cells, and what fires give -/
def skP (x v z : Nat) : Prop := (x + 31 ≤ z ∧ z ≤ x + 40) ∨ z = v + 13 ∨ z = v + 16 ∨ z = v + 17
def kpP (x v z : Nat) : Prop := z = x + 36 ∨ z = x + 37 ∨ z = v + 13 ∨ z = v + 16 ∨ z = v + 17
def hsI (j : Nat) : Int32 := if j = 4 then -1 else nI j
/-- the houses by their places -/
def HS (V x : Nat) (h : PH) : Prop := ∀ p, p < 4 → hI h (x + 31 + 1) p = hsI (hP V p)
/-- what show s of place i gives is kept -/
def DK (A : AV) (S : AS) (V x i s : Nat) (h : PH) : Prop := hI h (x + 31 + 5) (11 * i + s) = nI (dkP A S V i s 0) ∧ hI h (x + 31 + 6) (11 * i + s) = nI (dkP A S V i s 1)
section SPA1
variable {N x v J i c g : Nat} {A : AV} {S : AS} {V : Nat}
theorem SP.sm {h h' : PH} {k : Nat} (s : Sm h h') (p : SP h k) : SP h' k := by
  unfold SP IA at p ⊢
  rw [s.1, s.2.1, s.2.2.1]
  exact p
theorem SB.ex {h h' : PH} (hv : x + 43 ≤ v) (e : Ex (skP x v) h h') (hV : VA h' v A) (p : SB A S x v h) : SB A S x v h' := by
  obtain ⟨p1, ⟨p2, p3⟩, p4, p5, p6⟩ := p
  exact ⟨p1.sm e.1, ⟨by rw [e.1.2.2.1]; exact p2, by rw [e.1.2.2.1]; exact p3⟩, hV, p5.sm e.1, p6.ex e (fun z z1 z2 => by unfold skP; omega)⟩
theorem SB.own {P : Nat → Prop} {h h' : PH} (hv : x + 43 ≤ v) (e : Ex P h h') (hP : ∀ z, P z → x + 31 ≤ z ∧ z ≤ x + 40) (p : SB A S x v h) : SB A S x v h' :=
  p.ex hv (e.mono (fun z hz => Or.inl (hP z hz))) (p.2.2.1.ex e (fun z z1 z2 z3 => by have := hP z z3; omega))
theorem SB.gx {h h' : PH} (hv : x + 43 ≤ v) (g : Gx v h h') (hV : VA h' v A) (p : SB A S x v h) : SB A S x v h' := p.ex hv (g.ex.mono (fun z hz => by unfold skP; omega)) hV
theorem ix11 (i s : Nat) : nI i * (11 : Int32) + nI s = nI (11 * i + s) := by rw [show (11 : Int32) = nI 11 from rfl, pk_mul, nI_add, Nat.mul_comm]
theorem ix6 : nI i * (6 : Int32) + cm c + (1 : Int32) = nI (6 * i + ccO c) := by
  unfold cm ccO
  rw [show (6 : Int32) = nI 6 from rfl, pk_mul, Nat.mul_comm i 6]
  by_cases e : c = 5
  · rw [if_pos e, if_pos e, Int32.add_assoc, show (-1 : Int32) + 1 = 0 by decide, Int32.add_zero, Nat.add_zero]
  · rw [if_neg e, if_neg e, nI_add, nI_1, Nat.add_assoc]
theorem ccO_inj {d c : Nat} (h : ccO d = ccO c) : d = c := by
  unfold ccO at h
  by_cases e1 : d = 5
  · rw [if_pos e1] at h
    by_cases e2 : c = 5
    · omega
    · rw [if_neg e2] at h; omega
  · rw [if_neg e1] at h
    by_cases e2 : c = 5
    · rw [if_pos e2] at h; omega
    · rw [if_neg e2] at h; omega
theorem ccO_lt (hc : c ≤ 5) : ccO c < 6 := by
  unfold ccO
  by_cases e : c = 5
  · rw [if_pos e]; omega
  · rw [if_neg e]; omega
theorem cm_eqg (hg : g < 5) (hc : c ≤ 5) : nI g = cm c ↔ g = c := by
  unfold cm
  by_cases e : c = 5
  · rw [if_pos e]
    exact ⟨fun z => absurd z (ni1 (by omega)), fun z => by omega⟩
  · rw [if_neg e]
    exact nI_eq (by omega) (by omega)
theorem c_kp (hB : 2000 ≤ N) (hv : x + 43 ≤ v) (hH : tH S < 2 ^ 30) {s F l : Nat} (hi : i < 4) (hs : s < 11) (hF : F ≤ 1000) (hl : l ≤ 9) {h : PH} (sb : SB A S x v h) : ∃ h', f_X3_keep N (x + 31) (nI i) (nI s) (nI F + (-1)) (nI l) h = some ((), h') ∧ Ex (kpP x v) h h' ∧ SB A S x v h' ∧ hI h' (x + 31 + 5) = va_up (hI h (x + 31 + 5)) (11 * i + s) (nI (gv A F l (aWind A (tH S + 1)) 0)) ∧ hI h' (x + 31 + 6) = va_up (hI h (x + 31 + 6)) (11 * i + s) (nI (gv A F l (aWind A (tH S + 1)) 1)) := by
  obtain ⟨sp, ⟨r9, r10⟩, pv, hS, hC⟩ := id sb
  have hW := pv.2.2.1
  have l44 : inb (nI (11 * i + s)) 44 := nI_ix (by omega) (by decide)
  have x44 : ix (nI (11 * i + s)) = 11 * i + s := ix_nI (by omega)
  obtain ⟨ha, a1, a2, a3⟩ := c_givesOf (N := N) hB pv (F := F) (l := l) (w := aWind A (tH S + 1)) (b := 0) hF hl (aWind_le hW _) (by decide)
  have sba := sb.gx hv a2 a3
  have a1 : f_X6_givesOf N v (nI F + (-1)) (nI l) (nI (aWind A (tH S + 1))) 0 h = _ := a1
  have ga5 : hI ha (x + 31 + 5) = hI h (x + 31 + 5) := a2.2.2.2 _ (by omega) (by omega) (by omega)
  have ga6 : hI ha (x + 31 + 6) = hI h (x + 31 + 6) := a2.2.2.2 _ (by omega) (by omega) (by omega)
  have E1 : Ex (kpP x v) ha (sI ha (x + 31 + 5) (11 * i + s) (nI (gv A F l (aWind A (tH S + 1)) 0))) := Ex.sI (by unfold kpP; omega)
  have f5 : hI (sI ha (x + 31 + 5) (11 * i + s) (nI (gv A F l (aWind A (tH S + 1)) 0))) (x + 31 + 5) = va_up (hI ha (x + 31 + 5)) (11 * i + s) (nI (gv A F l (aWind A (tH S + 1)) 0)) := hI_sI_eq
  have f6 : hI (sI ha (x + 31 + 5) (11 * i + s) (nI (gv A F l (aWind A (tH S + 1)) 0))) (x + 31 + 6) = hI ha (x + 31 + 6) := hI_sI_ne (by omega)
  have sbb : SB A S x v (sI ha (x + 31 + 5) (11 * i + s) (nI (gv A F l (aWind A (tH S + 1)) 0))) := sba.own hv (Ex.sI (P := fun z => z = x + 31 + 5) rfl) (fun z hz => by omega)
  unfold f_X3_keep
  rw [ck_p sp.1, r9, rq_s, r10, rq_s, ck_p hS.1, ck_p pv.1.1, hC.1, nI_1, c_windAt pv.1 pv.2.1 hW (by omega), cl_s, ck_p sp.1, pR_dk2 sp, rq_s, r9, rq_s, ck_p pv.1.1, a1, cl_s, ck_p (pK_dk2 sba.1), pN_dk2 sba.1, ix11, ck_p l44, x44, bd_e]
  generalize sI ha (x + 31 + 5) (11 * i + s) (nI (gv A F l (aWind A (tH S + 1)) 0)) = hb at E1 f5 f6 sbb ⊢
  obtain ⟨spb, ⟨r9b, r10b⟩, pvb, hSb, hCb⟩ := id sbb
  obtain ⟨hc, c1, c2, c3⟩ := c_givesOf (N := N) hB pvb (F := F) (l := l) (w := aWind A (tH S + 1)) (b := 1) hF hl (aWind_le hW _) (by decide)
  have sbc := sbb.gx hv c2 c3
  have c1 : f_X6_givesOf N v (nI F + (-1)) (nI l) (nI (aWind A (tH S + 1))) 1 hb = _ := c1
  have gc5 : hI hc (x + 31 + 5) = hI hb (x + 31 + 5) := c2.2.2.2 _ (by omega) (by omega) (by omega)
  have gc6 : hI hc (x + 31 + 6) = hI hb (x + 31 + 6) := c2.2.2.2 _ (by omega) (by omega) (by omega)
  rw [ck_p spb.1, pR_sw2 spb, rq_s, r9b, rq_s, ck_p pvb.1.1, c1, cl_s, ck_p (pK_sw2 sbc.1), pN_sw2 sbc.1, ck_p l44, bd_e]
  have k2 : ∀ {h1 h2 : PH}, Gx v h1 h2 → Ex (kpP x v) h1 h2 := fun g => g.ex.mono (fun z hz => by unfold kpP; omega)
  refine ⟨_, rfl, (((k2 a2).trans E1).trans (k2 c2)).trans (Ex.sI (by unfold kpP; omega)), sbc.own hv (Ex.sI (P := fun z => z = x + 31 + 6) rfl) (fun z hz => by omega), ?_, ?_⟩
  · rw [hI_sI_ne (by omega), gc5, f5, ga5]
  · rw [hI_sI_eq, gc6, f6, ga6]
theorem c_burns_out {h : PH} {a : Nat} : f_X4_burns N a (-1) h = some (0, h) := by
  unfold f_X4_burns
  rw [if_pos (by decide)]
theorem c_canLight_out {h : PH} {a : Nat} (hS : ST h a) (q : Int32) : f_X4_canLight N a (-1) q h = some (0, h) := by
  unfold f_X4_canLight
  rw [ck_p hS.1, c_burns_out, cl_s, if_pos rfl, ck_p hS.1, c_stockOf_out (Or.inl (by decide)), cl_s, if_pos (by decide)]
/-- what is shown is noted -/
theorem c_220 {h : PH} {at' idv frv sh : Nat} (sp : SP h (x + 31)) (hi : i < 4) (ha : at' < 24) (e7 : hI h (x + 31 + 7) at' = nI idv) (e8 : hI h (x + 31 + 8) at' = nI frv) (e4 : hI h (x + 31 + 4) i = nI sh) (h1 : idv < 11) (h2 : frv < 2 ^ 5) : f_X3_prepareBehind_220 N (x + 31) (nI i) (nI at') h = some ((), sI h (x + 31 + 4) i (nI (sh ||| (2 ^ idv ||| 2 * frv)))) := by
  have xi : ix (nI i) = i := ix_nI (by omega)
  have xa : ix (nI at') = at' := ix_nI (by omega)
  unfold f_X3_prepareBehind_220
  rw [ck_p sp.1, pR_shows sp, rq_s, ck_p (pK_shows sp), pN_shows sp, ck_p (nI_ix hi (by decide)), pR_idle sp, rq_s, ck_p (pK_idle sp), pN_idle sp, ck_p (nI_ix ha (by decide)), pR_fre sp, rq_s, ck_p (pK_fre sp), pN_fre sp, ck_p (nI_ix ha (by decide)), xi, xa, e4, e7, e8, sh12 idv (by omega), sl1 frv (by omega), nI_or, nI_or, bd_e]
/-- what fuels may be lit, up to g -/
def fbP (S : AS) (V i c g : Nat) : Bool := decide ((if g = c then 1 else 0) < tT S (5 * hP V i + g))
def LI (A : AV) (S : AS) (V x i c sh : Nat) (h0 : PH) (g : Nat) (h : PH) : Prop := hI h (x + 31 + 8) (6 * i + ccO c) = nI (bts (fbP S V i c) g) ∧ (∀ k, k ≠ 6 * i + ccO c → hI h (x + 31 + 8) k = hI h0 (x + 31 + 8) k) ∧ (∀ s, (sh.testBit s = true ∨ ∃ g', g' < g ∧ fbP S V i c g' = true ∧ s = g' + 1) → DK A S V x i s h) ∧ ∀ k, (k < 11 * i ∨ 11 * i + 11 ≤ k ∨ k = 11 * i) → hI h (x + 31 + 5) k = hI h0 (x + 31 + 5) k ∧ hI h (x + 31 + 6) k = hI h0 (x + 31 + 6) k
def lqP (x v z : Nat) : Prop := z = x + 39 ∨ kpP x v z
theorem c_l141 (hB : 2000 ≤ N) (hv : x + 43 ≤ v) (hT : WS A J S) (hH : tH S < 2 ^ 30) (hi : i < 4) (hj : hP V i < 4) (hc : c ≤ 5) {sh : Nat} {h0 : PH} : ∀ (n g : Nat) (h : PH), aC A 0 < n + g → g ≤ aC A 0 → SB A S x v h → LI A S V x i c sh h0 g h → ∃ h', f_X3_prepareBehind_141 N n (x + 31) (nI i) (cm c) (nI (hP V i)) (nI (6 * i + ccO c)) (nI g) h = f_X3_prepareBehind_220 N (x + 31) (nI i) (nI (6 * i + ccO c)) h' ∧ Ex (lqP x v) h h' ∧ SB A S x v h' ∧ LI A S V x i c sh h0 (aC A 0) h'
  | 0, g, h, h1, h2, _, _ => by omega
  | n + 1, g, h, h1, h2, sb, li => by
    obtain ⟨sp, ⟨r9, r10⟩, pv, hS, hC⟩ := id sb
    have hW := pv.2.2.1
    have h5 := hW.1.1
    have cl := ccO_lt hc
    show ∃ h', f_X3_prepareBehind_141_b N (f_X3_prepareBehind_141 N n) (x + 31) _ _ _ _ _ h = _ ∧ _
    unfold f_X3_prepareBehind_141_b
    rw [ck_p sp.1, r9, rq_s, ck_p pv.1.1, vR_many pv.1, rq_s, ck_p (vK_many pv.1), vN_many pv.1, ck_p (by decide), pv.2.1.1 0 (by decide), ite_i (nI_leI (by omega) (by omega))]
    by_cases e : aC A 0 ≤ g
    · have eg : g = aC A 0 := by omega
      subst eg
      rw [if_pos e]
      exact ⟨h, rfl, Ex.rf, sb, li⟩
    have tl := hT.2.2.1 (5 * hP V i + g) (by omega)
    rw [if_neg e, r10, rq_s, ck_p hS.1, c_stockOf hS hC hj (by omega), cl_s]
    have lim : (if nI g = cm c then f_X3_prepareBehind_176 N (f_X3_prepareBehind_141 N n) (1 : Int32) (nI (tT S (5 * hP V i + g))) (x + 31) (nI i) (cm c) (nI (hP V i)) (nI (6 * i + ccO c)) (nI g) h else f_X3_prepareBehind_176 N (f_X3_prepareBehind_141 N n) (0 : Int32) (nI (tT S (5 * hP V i + g))) (x + 31) (nI i) (cm c) (nI (hP V i)) (nI (6 * i + ccO c)) (nI g) h) = f_X3_prepareBehind_176 N (f_X3_prepareBehind_141 N n) (nI (if g = c then 1 else 0)) (nI (tT S (5 * hP V i + g))) (x + 31) (nI i) (cm c) (nI (hP V i)) (nI (6 * i + ccO c)) (nI g) h := by
      rw [ite_i (cm_eqg (show g < 5 by omega) hc)]
      by_cases q : g = c
      · rw [if_pos q, if_pos q]; rfl
      · rw [if_neg q, if_neg q]; rfl
    rw [lim]
    have l1 : (if g = c then 1 else 0) ≤ 1 := by split <;> omega
    have fe : fbP S V i c g = decide ((if g = c then 1 else 0) < tT S (5 * hP V i + g)) := rfl
    unfold f_X3_prepareBehind_176 f_X3_prepareBehind_214
    generalize (if g = c then 1 else 0) = li1 at l1 fe
    rw [ite_i (nI_leI (by omega) (by omega))]
    obtain ⟨q1, q2, q3, q4⟩ := li
    by_cases t : tT S (5 * hP V i + g) ≤ li1
    · rw [if_pos t, bd_e, nI_1]
      have fn : fbP S V i c g = false := by rw [fe]; exact decide_eq_false (by omega)
      refine c_l141 hB hv hT hH hi hj hc n (g + 1) h (by omega) (by omega) sb ⟨?_, q2, fun s hs => q3 s ?_, q4⟩
      · rw [q1, bts_succ, fn, if_neg (by decide)]
      · rcases hs with hs | ⟨g', g1, g2, g3⟩
        · exact Or.inl hs
        · refine Or.inr ⟨g', ?_, g2, g3⟩
          by_cases z : g' = g
          · rw [z, fn] at g2; cases g2
          · omega
    · have ft : fbP S V i c g = true := by rw [fe]; exact decide_eq_true (by omega)
      have a24 : inb (nI (6 * i + ccO c)) 24 := nI_ix (by omega) (by decide)
      have x24 : ix (nI (6 * i + ccO c)) = 6 * i + ccO c := ix_nI (by omega)
      have e8 : (nI (bts (fbP S V i c) g) ||| ((1 : Int32) <<< (nI g &&& 31))) = nI (bts (fbP S V i c) (g + 1)) := by rw [bts_or _ (by omega), bts_succ, ft, if_pos rfl]
      have E1 : Ex (lqP x v) h (sI h (x + 31 + 8) (6 * i + ccO c) (nI (bts (fbP S V i c) (g + 1)))) := Ex.sI (by unfold lqP; omega)
      have f8 : hI (sI h (x + 31 + 8) (6 * i + ccO c) (nI (bts (fbP S V i c) (g + 1)))) (x + 31 + 8) = va_up (hI h (x + 31 + 8)) (6 * i + ccO c) (nI (bts (fbP S V i c) (g + 1))) := hI_sI_eq
      have f5 : hI (sI h (x + 31 + 8) (6 * i + ccO c) (nI (bts (fbP S V i c) (g + 1)))) (x + 31 + 5) = hI h (x + 31 + 5) := hI_sI_ne (by omega)
      have f6 : hI (sI h (x + 31 + 8) (6 * i + ccO c) (nI (bts (fbP S V i c) (g + 1)))) (x + 31 + 6) = hI h (x + 31 + 6) := hI_sI_ne (by omega)
      have sba : SB A S x v (sI h (x + 31 + 8) (6 * i + ccO c) (nI (bts (fbP S V i c) (g + 1)))) := sb.own hv (Ex.sI (P := fun z => z = x + 31 + 8) rfl) (fun z hz => by omega)
      rw [if_neg t, ck_p sp.1, pR_fre sp, rq_s, ck_p (pK_fre sp), pN_fre sp, ck_p a24, x24, q1, e8, bd_e]
      generalize sI h (x + 31 + 8) (6 * i + ccO c) (nI (bts (fbP S V i c) (g + 1))) = ha at E1 f8 f5 f6 sba ⊢
      obtain ⟨spa, ⟨r9a, r10a⟩, pva, hSa, hCa⟩ := id sba
      have hBg := hW.2.1 g (by omega)
      obtain ⟨hb, b1, b2, b3, b4, b5⟩ := c_kp (N := N) hB hv hH hi (s := g + 1) (F := g + 1) (l := aB A g) (by omega) (by omega) (by omega) sba
      rw [pk_m1] at b1
      have dk : ∀ b, dkP A S V i (g + 1) b = gv A (g + 1) (aB A g) (aWind A (tH S + 1)) b := fun b => by
        unfold dkP
        rw [if_pos (by omega), Nat.add_sub_cancel]
      rw [ck_p spa.1, r9a, rq_s, ck_p pva.1.1, vR_burns pva.1, rq_s, ck_p (vK_burns pva.1), vN_burns pva.1, ck_p (nI_ix (by omega) (by decide)), ix_nI (by omega), (pva.2.1.2.2.1 g (by omega)).2.2, show (1 : Int32) = nI 1 from rfl, nI_add, Nat.add_comm 1 g, b1, cl_s, bd_e, nI_add]
      have g8 : hI hb (x + 31 + 8) = hI ha (x + 31 + 8) := b2.2.2.2 _ (by unfold kpP; omega)
      obtain ⟨h', t1, t2, t3, t4⟩ := c_l141 (sh := sh) (h0 := h0) hB hv hT hH hi hj hc n (g + 1) hb (by omega) (by omega) b3 ⟨by rw [g8, f8, va_eq], fun k hk => by rw [g8, f8, va_ne hk]; exact q2 k hk, fun s hs => by
        unfold DK
        rw [b4, b5, f5, f6]
        by_cases z : s = g + 1
        · rw [z, va_eq, va_eq, dk, dk]
          exact ⟨rfl, rfl⟩
        · rw [va_ne (by omega), va_ne (by omega)]
          refine q3 s ?_
          rcases hs with hs | ⟨g', g1, g2, g3⟩
          · exact Or.inl hs
          · exact Or.inr ⟨g', by omega, g2, g3⟩, fun k hk => by
        rw [b4, b5, f5, f6, va_ne (by omega), va_ne (by omega)]
        exact q4 k hk⟩
      exact ⟨h', t1, (E1.trans (b2.mono (fun z hz => Or.inr hz))).trans t2, t3, t4⟩
theorem c_l141n (hv : x + 43 ≤ v) {h : PH} (sb : SB A S x v h) (a0 : Int32) : ∀ (n g : Nat), aC A 0 < n + g → g ≤ aC A 0 → f_X3_prepareBehind_141 N n (x + 31) (nI i) (-1) (-1) a0 (nI g) h = f_X3_prepareBehind_220 N (x + 31) (nI i) a0 h
  | 0, g, h1, h2 => by omega
  | n + 1, g, h1, h2 => by
    obtain ⟨sp, ⟨r9, r10⟩, pv, hS, hC⟩ := id sb
    have hW := pv.2.2.1
    have h5 := hW.1.1
    show f_X3_prepareBehind_141_b N (f_X3_prepareBehind_141 N n) (x + 31) _ _ _ _ _ h = _
    unfold f_X3_prepareBehind_141_b
    rw [ck_p sp.1, r9, rq_s, ck_p pv.1.1, vR_many pv.1, rq_s, ck_p (vK_many pv.1), vN_many pv.1, ck_p (by decide), pv.2.1.1 0 (by decide), ite_i (nI_leI (by omega) (by omega))]
    by_cases e : aC A 0 ≤ g
    · rw [if_pos e]
    · rw [if_neg e, r10, rq_s, ck_p hS.1, c_stockOf_out (Or.inl (by decide)), cl_s, if_neg (ni1 (show g < 1000 by omega))]
      unfold f_X3_prepareBehind_176 f_X3_prepareBehind_214
      rw [if_pos (by decide), bd_e, nI_1]
      exact c_l141n hv sb a0 n (g + 1) (by omega) (by omega)
end SPA1
