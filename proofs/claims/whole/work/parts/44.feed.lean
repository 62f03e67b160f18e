/-! The duty of feed. -/
/-- a sign comes behind the tape, or is left out -/
def ts (p : Nat × (Nat → Nat)) (v : Int32) : Nat × (Nat → Nat) := if (v = 10 ∨ (¬ v < 32 ∧ ¬ 126 < v)) ∧ p.1 < 1000 then (p.1 + 1, va_up p.2 p.1 (ix v)) else p
def byt (w : Int64) (k : Nat) : Int32 := (g_lushr w (nI (56 - 8 * k))).toInt32 &&& (255 : Int32)
def tw (w : Int64) (p : Nat × (Nat → Nat)) : Nat → Nat × (Nat → Nat)
  | 0 => p
  | k + 1 => ts (tw w p k) (byt w k)
def tf (f : Nat → Int32) (p : Nat × (Nat → Nat)) : Nat → Nat × (Nat → Nat)
  | 0 => p
  | k + 1 => ts (tf f p k) (f k)
def sh8 (k : Nat) : Int32 := nI (64 - 8 * k) + (-8 : Int32)
theorem sh8_n : ∀ k, k < 8 → (¬ sh8 k < 0 ∧ sh8 k = nI (56 - 8 * k) ∧ sh8 k + (-8 : Int32) = sh8 (k + 1)) := by decide +kernel
theorem sh8_8 : sh8 8 < 0 := by decide +kernel
theorem sh8_0 : sh8 0 = 56 := by decide +kernel
theorem f24_n : ∀ k, k < 24 → (56 : Int32) - ((8 : Int32) * (nI k &&& (7 : Int32))) = nI (56 - 8 * (k % 8)) := by decide +kernel
theorem chr_n : ∀ b, b < 127 → g_nc (((nI b).toUInt32 % 65536).toInt32) = nI b := by decide +kernel
theorem sgn_of {v : Int32} (h : v = 10 ∨ (¬ v < 32 ∧ ¬ 126 < v)) : ∃ b, v = nI b ∧ ix v = b ∧ (b = 10 ∨ (32 ≤ b ∧ b ≤ 126)) := by
  rcases h with rfl | ⟨h1, h2⟩
  · exact ⟨10, rfl, rfl, Or.inl rfl⟩
  · have h0 : ¬ v < 0 := fun z => h1 (by rw [fa_lt] at z ⊢; rw [show (32 : Int32).toInt = 32 by decide]; rw [show (0 : Int32).toInt = 0 by decide] at z; omega)
    obtain ⟨k, hk, rfl⟩ := nI_of h0
    rw [show (32 : Int32) = nI 32 from rfl, nI_ltI hk (by decide)] at h1
    rw [show (126 : Int32) = nI 126 from rfl, nI_ltI (by decide) hk] at h2
    exact ⟨k, rfl, ix_nI hk, Or.inr ⟨by omega, by omega⟩⟩
def okT (p : Nat × (Nat → Nat)) : Prop := p.1 ≤ 1000 ∧ ∀ k, k < p.1 → p.2 k = 10 ∨ (32 ≤ p.2 k ∧ p.2 k ≤ 126)
theorem okT.step {p : Nat × (Nat → Nat)} (h : okT p) (v : Int32) : okT (ts p v) := by
  unfold ts
  by_cases c : (v = 10 ∨ (¬ v < 32 ∧ ¬ 126 < v)) ∧ p.1 < 1000
  · rw [if_pos c]
    obtain ⟨b, -, e, hb⟩ := sgn_of c.1
    refine ⟨Nat.succ_le_of_lt c.2, fun k hk => ?_⟩
    have hk : k < p.1 + 1 := hk
    show va_up p.2 p.1 (ix v) k = 10 ∨ _
    by_cases q : k = p.1
    · show va_up p.2 p.1 (ix v) k = 10 ∨ (32 ≤ va_up p.2 p.1 (ix v) k ∧ va_up p.2 p.1 (ix v) k ≤ 126)
      rw [q, va_eq, e]; exact hb
    · show va_up p.2 p.1 (ix v) k = 10 ∨ (32 ≤ va_up p.2 p.1 (ix v) k ∧ va_up p.2 p.1 (ix v) k ≤ 126)
      rw [va_ne q]; exact h.2 k (by omega)
  · rw [if_neg c]; exact h
theorem okT.tf {f : Nat → Int32} {p : Nat × (Nat → Nat)} (h : okT p) : ∀ k, okT (tf f p k)
  | 0 => h
  | k + 1 => (okT.tf h k).step (f k)
theorem okT.tw {w : Int64} {p : Nat × (Nat → Nat)} (h : okT p) : ∀ k, okT (tw w p k)
  | 0 => h
  | k + 1 => (okT.tw h k).step (byt w k)
/-- the class's tape at t, and a row with its length, hold p -/
def CT (h : PH) (t : Nat) (p : Nat × (Nat → Nat)) : Prop := hI h t 1 = nI p.1 ∧ ∀ k, k < p.1 → hI h (t + 1) k = nI (p.2 k)
theorem TP.sm {h h' : PH} {t : Nat} (s : Sm h h') (p : TP h t) : TP h' t := by unfold TP at p ⊢; rw [s.1, s.2.1, s.2.2.1]; exact p
section FE
variable {N : Nat}
theorem c_add (hN : 10 ≤ N) {t : Nat} {w : Int64} {p : Nat × (Nat → Nat)} (hp : okT p) : ∀ (n k : Nat) (h : PH), 8 < n + k → k ≤ 8 → TP h t → CT h t (tw w p k) → ∃ h', f_X5_add_3 N n t w (sh8 k) h = some ((), h') ∧ Ex (fun z => z = t ∨ z = t + 1) h h' ∧ CT h' t (tw w p 8)
  | 0, k, h, h1, h2, _, _ => by omega
  | n + 1, k, h, h1, h2, hT, hC => by
    show ∃ h', f_X5_add_3_b N (f_X5_add_3 N n) t w _ h = _ ∧ _
    unfold f_X5_add_3_b
    by_cases c : k = 8
    · subst c
      rw [if_pos sh8_8]
      exact ⟨h, rfl, Ex.rf, hC⟩
    · obtain ⟨s1, s2, s3⟩ := sh8_n k (by omega)
      have ok := okT.tw hp (w := w) k
      rw [if_neg s1, bd_e, s2, show (g_lushr w (nI (56 - 8 * k))).toInt32 &&& (255 : Int32) = byt w k from rfl]
      have out : ∀ g, TP g t → Ex (fun z => z = t ∨ z = t + 1) h g → CT g t (ts (tw w p k) (byt w k)) → ∃ h', f_X5_add_70 N (f_X5_add_3 N n) t w (nI (56 - 8 * k)) g = some ((), h') ∧ Ex (fun z => z = t ∨ z = t + 1) h h' ∧ CT h' t (tw w p 8) := fun g g1 g2 g3 => by
        obtain ⟨h', r1, r2, r3⟩ := c_add hN hp n (k + 1) g (by omega) (by omega) g1 g3
        refine ⟨h', ?_, g2.trans r2, r3⟩
        unfold f_X5_add_70
        rw [bd_e, ← s2, s3]
        exact r1
      have put : (byt w k = 10 ∨ (¬ byt w k < 32 ∧ ¬ 126 < byt w k)) → ∃ h', f_X5_add_38 N (f_X5_add_3 N n) t w (nI (56 - 8 * k)) (byt w k) h = some ((), h') ∧ Ex (fun z => z = t ∨ z = t + 1) h h' ∧ CT h' t (tw w p 8) := fun q => by
        unfold f_X5_add_38
        unfold ts at out
        rw [ck_p hT.1, hC.1, ite_i (show (1000 : Int32) ≤ nI (tw w p k).1 ↔ 1000 ≤ (tw w p k).1 from nI_leI (a := 1000) (by decide) (by have := ok.1; omega))]
        by_cases f : 1000 ≤ (tw w p k).1
        · rw [if_pos f]
          rw [if_neg (fun z => by have := z.2; omega)] at out
          exact out h hT Ex.rf hC
        · rw [if_pos ⟨q, by omega⟩] at out
          obtain ⟨b, e1, e2, e3⟩ := sgn_of q
          have T1 := hT.sm (Sm.sI (h := h) (a := t + 1) (k := (tw w p k).1) (v := nI b))
          rw [if_neg f, hT.2.1, rq_s, ck_p hT.2.2.1, hT.2.2.2, ck_p (nI_ix (by omega) (by decide)), ix_nI (by omega), e1, chr_n b (by omega), bd_e, ck_p T1.1, hI_sI_ne (by omega), hC.1, nI_1, bd_e]
          rw [e1] at out
          refine out _ (T1.sm Sm.sI) ((Ex.sI (Or.inr rfl)).trans (Ex.sI (Or.inl rfl))) ⟨?_, fun j hj => ?_⟩
          · rw [hI_sI_eq, va_eq]
          · have hj : j < (tw w p k).1 + 1 := hj
            show _ = nI (va_up (tw w p k).2 (tw w p k).1 (ix (nI b)) j)
            rw [hI_sI_ne (by omega), hI_sI_eq]
            by_cases z : j = (tw w p k).1
            · rw [z, va_eq, va_eq, ix_nI (by omega)]
            · rw [va_ne z, va_ne z]; exact hC.2 j (by omega)
      have skip : ¬ (byt w k = 10 ∨ (¬ byt w k < 32 ∧ ¬ 126 < byt w k)) → ∃ h', f_X5_add_70 N (f_X5_add_3 N n) t w (nI (56 - 8 * k)) h = some ((), h') ∧ Ex (fun z => z = t ∨ z = t + 1) h h' ∧ CT h' t (tw w p 8) := fun q => by
        unfold ts at out
        rw [if_neg (fun z => q z.1)] at out
        exact out h hT Ex.rf hC
      by_cases c1 : byt w k = 10
      · rw [if_pos c1]; exact put (Or.inl c1)
      · rw [if_neg c1]
        by_cases c2 : byt w k < 32
        · rw [if_pos c2]; exact skip (fun z => z.elim c1 (fun z => z.1 c2))
        · rw [if_neg c2]
          by_cases c3 : 126 < byt w k
          · rw [if_pos c3]; exact skip (fun z => z.elim c1 (fun z => z.2 c3))
          · rw [if_neg c3]; exact put (Or.inr ⟨c2, c3⟩)
theorem c_addT (hN : 10 ≤ N) {h : PH} {t : Nat} {p : Nat × (Nat → Nat)} (w : Int64) (hp : okT p) (hT : TP h t) (hC : CT h t p) : ∃ h', f_X5_add N t w h = some ((), h') ∧ Ex (fun z => z = t ∨ z = t + 1) h h' ∧ CT h' t (tw w p 8) := by
  have := c_add (w := w) hN hp N 0 h (by omega) (by omega) hT hC
  rw [sh8_0] at this
  exact this
def MT2 (h : PH) (y : Nat) (p : Nat × (Nat → Nat)) : Prop := hI h y 1 = nI p.1 ∧ ∀ k, k < p.1 → hI h (y + 1) k = nI (p.2 k)
def f24 (a b c : Int64) (k : Nat) : Int32 := byt (if k < 8 then a else if k < 16 then b else c) (k % 8)
theorem m_fd (hN : 10 ≤ N) {y : Nat} {a b c : Int64} {p : Nat × (Nat → Nat)} (hp : okT p) : ∀ (n k : Nat) (h : PH), 24 < n + k → k ≤ 24 → MD h y → MT2 h y (tf (f24 a b c) p k) → ∃ h', f_X11_feed_8 N n y a b c (nI k) h = some (nI (tf (f24 a b c) p 24).1, h') ∧ Ex (fun z => z = y ∨ z = y + 1) h h' ∧ MT2 h' y (tf (f24 a b c) p 24) ∧ ∀ j, j ≠ 1 → hI h' y j = hI h y j
  | 0, k, h, h1, h2, _, _ => by omega
  | n + 1, k, h, h1, h2, m, hC => by
    show ∃ h', f_X11_feed_8_b N (f_X11_feed_8 N n) y a b c _ h = _ ∧ _
    unfold f_X11_feed_8_b
    rw [ite_i (show (24 : Int32) ≤ nI k ↔ 24 ≤ k from nI_leI (a := 24) (by decide) (by omega)), ite_i (show (8 : Int32) ≤ nI k ↔ 8 ≤ k from nI_leI (a := 8) (by decide) (by omega)), ite_i (show (16 : Int32) ≤ nI k ↔ 16 ≤ k from nI_leI (a := 16) (by decide) (by omega))]
    by_cases c24 : 24 ≤ k
    · have e : k = 24 := by omega
      subst e
      rw [if_pos c24, ck_p m.1, hC.1]
      exact ⟨h, rfl, Ex.rf, hC, fun _ _ => rfl⟩
    · have ok := okT.tf hp (f := f24 a b c) k
      have go : ∀ w, w = (if k < 8 then a else if k < 16 then b else c) → ∃ h', f_X11_feed_39 N (f_X11_feed_8 N n) w y a b c (nI k) h = some (nI (tf (f24 a b c) p 24).1, h') ∧ Ex (fun z => z = y ∨ z = y + 1) h h' ∧ MT2 h' y (tf (f24 a b c) p 24) ∧ ∀ j, j ≠ 1 → hI h' y j = hI h y j := by
        intro w hw
        have ev : ((g_lushr w ((56 : Int32) - ((8 : Int32) * (nI k &&& (7 : Int32))))) &&& (255 : Int64)).toInt32 = f24 a b c k := by
          rw [f24_n k (by omega), Int64.toInt32_and, show (255 : Int64).toInt32 = (255 : Int32) by decide]
          unfold f24 byt
          rw [← hw]
        unfold f_X11_feed_39
        rw [ev, bd_e, ck_p m.1, hC.1, ite_i (show (1000 : Int32) ≤ nI (tf (f24 a b c) p k).1 ↔ 1000 ≤ (tf (f24 a b c) p k).1 from nI_leI (a := 1000) (by decide) (by have := ok.1; omega))]
        have out : ∀ g, MD g y → Ex (fun z => z = y ∨ z = y + 1) h g → (∀ j, j ≠ 1 → hI g y j = hI h y j) → MT2 g y (ts (tf (f24 a b c) p k) (f24 a b c k)) → ∃ h', f_X11_feed_114 N (f_X11_feed_8 N n) y a b c (nI k) g = some (nI (tf (f24 a b c) p 24).1, h') ∧ Ex (fun z => z = y ∨ z = y + 1) h h' ∧ MT2 h' y (tf (f24 a b c) p 24) ∧ ∀ j, j ≠ 1 → hI h' y j = hI h y j := fun g g1 g2 g3 g4 => by
          obtain ⟨h', r1, r2, r3, r4⟩ := m_fd hN hp n (k + 1) g (by omega) (by omega) g1 g4
          refine ⟨h', ?_, g2.trans r2, r3, fun j hj => (r4 j hj).trans (g3 j hj)⟩
          unfold f_X11_feed_114
          rw [bd_e, nI_1]
          exact r1
        generalize f24 a b c k = v at out
        unfold ts at out
        by_cases f : 1000 ≤ (tf (f24 a b c) p k).1
        · rw [if_pos f]
          rw [if_neg (fun z => by have := z.2; omega)] at out
          exact out h m Ex.rf (fun _ _ => rfl) hC
        · rw [if_neg f]
          have put : (v = 10 ∨ (¬ v < 32 ∧ ¬ 126 < v)) → ∃ h', f_X11_feed_93 N (f_X11_feed_8 N n) y a b c (nI k) v h = some (nI (tf (f24 a b c) p 24).1, h') ∧ Ex (fun z => z = y ∨ z = y + 1) h h' ∧ MT2 h' y (tf (f24 a b c) p 24) ∧ ∀ j, j ≠ 1 → hI h' y j = hI h y j := fun q => by
            rw [if_pos ⟨q, by omega⟩] at out
            obtain ⟨s, e1, e2, e3⟩ := sgn_of q
            unfold f_X11_feed_93
            have m1 := m.sm (Sm.sI (h := h) (a := y + 1) (k := (tf (f24 a b c) p k).1) (v := v))
            rw [ck_p m.1, mR_tape m, rq_s, ck_p (mK_tape m), mN_tape m, hC.1, ck_p (nI_ix (by omega) (by decide)), ix_nI (by omega), bd_e, ck_p m1.1, hI_sI_ne (by omega), hC.1, nI_1, bd_e]
            refine out _ (m1.sm Sm.sI) ((Ex.sI (Or.inr rfl)).trans (Ex.sI (Or.inl rfl))) (fun j hj => by rw [hI_sI_eq, va_ne hj, hI_sI_ne (by omega)]) ⟨?_, fun j hj => ?_⟩
            · rw [hI_sI_eq, va_eq]
            · have hj : j < (tf (f24 a b c) p k).1 + 1 := hj
              show _ = nI (va_up (tf (f24 a b c) p k).2 (tf (f24 a b c) p k).1 (ix v) j)
              rw [hI_sI_ne (by omega), hI_sI_eq]
              by_cases z : j = (tf (f24 a b c) p k).1
              · rw [z, va_eq, va_eq, e2, e1]
              · rw [va_ne z, va_ne z]; exact hC.2 j (by omega)
          have skip : ¬ (v = 10 ∨ (¬ v < 32 ∧ ¬ 126 < v)) → ∃ h', f_X11_feed_114 N (f_X11_feed_8 N n) y a b c (nI k) h = some (nI (tf (f24 a b c) p 24).1, h') ∧ Ex (fun z => z = y ∨ z = y + 1) h h' ∧ MT2 h' y (tf (f24 a b c) p 24) ∧ ∀ j, j ≠ 1 → hI h' y j = hI h y j := fun q => by
            rw [if_neg (fun z => q z.1)] at out
            exact out h m Ex.rf (fun _ _ => rfl) hC
          by_cases c1 : v = 10
          · rw [if_pos c1]; exact put (Or.inl c1)
          · rw [if_neg c1]
            by_cases c2 : v < 32
            · rw [if_pos c2]; exact skip (fun z => z.elim c1 (fun z => z.1 c2))
            · rw [if_neg c2]
              by_cases c3 : 126 < v
              · rw [if_pos c3]; exact skip (fun z => z.elim c1 (fun z => z.2 c3))
              · rw [if_neg c3]; exact put (Or.inr ⟨c2, c3⟩)
      rw [if_neg c24]
      by_cases k8 : 8 ≤ k
      · rw [if_pos k8]
        by_cases k16 : 16 ≤ k
        · rw [if_pos k16]; exact go c (by rw [if_neg (by omega), if_neg (by omega)])
        · rw [if_neg k16]; exact go b (by rw [if_neg (by omega), if_pos (by omega)])
      · rw [if_neg k8]; exact go a (by rw [if_pos (by omega)])
end FE
theorem tf_tw {a b c w : Int64} {p : Nat × (Nat → Nat)} {m : Nat} : ∀ k, (∀ j, j < k → f24 a b c (m + j) = byt w j) → tf (f24 a b c) p (m + k) = tw w (tf (f24 a b c) p m) k
  | 0, _ => rfl
  | k + 1, h => by
    show ts (tf (f24 a b c) p (m + k)) (f24 a b c (m + k)) = ts (tw w _ k) (byt w k)
    rw [tf_tw k (fun j hj => h j (by omega)), h k (by omega)]
theorem tf_24 (a b c : Int64) (p : Nat × (Nat → Nat)) : tf (f24 a b c) p 24 = tw c (tw b (tw a p 8) 8) 8 := by
  have e1 : tf (f24 a b c) p (0 + 8) = tw a p 8 := tf_tw 8 (fun j hj => by
    unfold f24
    rw [if_pos (by omega), show (0 + j) % 8 = j by omega])
  have e2 : tf (f24 a b c) p (8 + 8) = tw b (tf (f24 a b c) p 8) 8 := tf_tw 8 (fun j hj => by
    unfold f24
    rw [if_neg (by omega), if_pos (by omega), show (8 + j) % 8 = j by omega])
  have e3 : tf (f24 a b c) p (16 + 8) = tw c (tf (f24 a b c) p 16) 8 := tf_tw 8 (fun j hj => by
    unfold f24
    rw [if_neg (by omega), if_neg (by omega), show (16 + j) % 8 = j by omega])
  rw [show 24 = 16 + 8 from rfl, e3, show 16 = 8 + 8 from rfl, e2, show tf (f24 a b c) p 8 = tf (f24 a b c) p (0 + 8) from rfl, e1]
section DYF
variable {N x y o J : Nat}
theorem d_feed (hN2 : 2001 ≤ N) : D_feed (INV N x y o J) (INV N x y o (J + 1)) N x y := by
  intro a b c h ⟨v, w, A, M, pn, pc, P, lb, K, tn, tb, q⟩
  obtain ⟨p0, ob, pv, pm, pnm, ⟨cM, rS, rD, rR, wM⟩, pP, pK, pT⟩ := id q
  have y0 := p0.1
  have vw := ob.1
  have ok0 : okT (tn, tb) := ⟨pT.1, fun k hk => (pT.2.2.2 k hk).1⟩
  have ct0 : CT h (x + 1) (tn, tb) := ⟨pT.2.1, fun k hk => (pT.2.2.2 k hk).2.1⟩
  obtain ⟨h1, r1, e1, c1⟩ := c_addT (N := N) (by omega) a ok0 ob.tp ct0
  have ob1 := ob.shp (x := x) e1.shp
  obtain ⟨h2, r2, e2, c2⟩ := c_addT (N := N) (by omega) b (okT.tw ok0 8) ob1.tp c1
  have ob2 := ob1.shp (x := x) e2.shp
  obtain ⟨h3, r3, e3, c3⟩ := c_addT (N := N) (by omega) c (okT.tw (okT.tw ok0 8) 8) ob2.tp c2
  have ob3 := ob2.shp (x := x) e3.shp
  rw [← tf_24] at c3
  have okE : okT (tf (f24 a b c) (tn, tb) 24) := okT.tf ok0 24
  have eC := (e1.trans e2).trans e3
  have cls : f_X10_feed N x a b c h = some (nI (tf (f24 a b c) (tn, tb) 24).1, h3) := by
    unfold f_X10_feed
    rw [ck_p ob.k9, ob.R0, rq_s, ck_p ob.tp.1, r1, cl_s, ck_p ob1.k9, ob1.R0, rq_s, ck_p ob1.tp.1, r2, cl_s, ck_p ob2.k9, ob2.R0, rq_s, ck_p ob2.tp.1, r3, cl_s, ck_p ob3.k9, ob3.R0, rq_s, ck_p ob3.tp.1, c3.1]
  have t3 : Ex (fun z => z < y) h h3 := eC.mono (fun z hz => by omega)
  obtain ⟨pmh, rSh, k54, rPh, ey1, -⟩ := ref_at q t3 (fun z hz => hz)
  have ky : hK h3 y = 10 := by rw [t3.1.1]; exact pm.1.1
  have mt0 : MT2 (sI h3 y 0 0) y (tn, tb) := ⟨ey1, fun k hk => by rw [hI_sI_ne (by omega), t3.2.2.2 (y + 1) (by omega)]; exact (pT.2.2.2 k hk).2.2⟩
  obtain ⟨h4, s1, s2, s3, s4⟩ := m_fd (N := N) (a := a) (b := b) (c := c) (by omega) ok0 N 0 (sI h3 y 0 0) (by omega) (by omega) pmh.1 mt0
  refine wp2 (h2 := h4) cls ky (by unfold f_X11_feed; rw [ck_p ky, bd_e]; exact s1) ?_
  have yh : Ex (fun z => z = y) h3 (sI h3 y 0 0) := Ex.sI rfl
  have T : Ex (fun z => z = x + 1 ∨ z = x + 2 ∨ z = y ∨ z = y + 1) h h4 := ((eC.mono (Q := fun z => z = x + 1 ∨ z = x + 2 ∨ z = y ∨ z = y + 1) (fun z hz => by omega)).trans (yh.mono (Q := fun z => z = x + 1 ∨ z = x + 2 ∨ z = y ∨ z = y + 1) (fun z hz => by omega))).trans (s2.mono (Q := fun z => z = x + 1 ∨ z = x + 2 ∨ z = y ∨ z = y + 1) (fun z hz => by omega))
  have kk : Kx x (fun z => ¬ (z = x + 1 ∨ z = x + 2 ∨ z = y ∨ z = y + 1)) h h4 := T.kx (fun z hz => hz)
  have tr : ∀ z, z < y → hI h4 z = hI h3 z := fun z hz => by rw [s2.2.2.2 z (by omega), hI_sI_ne (by omega)]
  exact ⟨v, w, A, M, pn, pc, P, lb, K, (tf (f24 a b c) (tn, tb) 24).1, (tf (f24 a b c) (tn, tb) 24).2, INVq.up (Nat.le_succ J) (INVq.step (kk.mono (fun z hz => by unfold Kv at hz; omega)) q (IM.kx kk (fun z hz => by omega) ⟨cM, rS, rD, rR, wM⟩) (pP.kx kk (fun k _ => by rw [T.2.2.2 x (by omega)]) (by rw [s4 54 (by decide), k54]; exact pP.1.2.2.2.2.symm) (fun z hz => by omega)) (pK.kx kk (by rw [T.2.2.2 x (by omega)]) (fun z hz => by omega)) ⟨okE.1, by rw [tr _ (by omega)]; exact c3.1, s3.1, fun k hk => ⟨okE.2 k hk, by rw [tr _ (by omega)]; exact c3.2 k hk, s3.2 k hk⟩⟩)⟩
end DYF
