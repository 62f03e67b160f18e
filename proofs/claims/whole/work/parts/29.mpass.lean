/-! The reference lets an hour pass. -/
/-- the soot that came over the first i flues -/
def came (A : AV) (S : AS) (i : Nat) : Nat := fb_sm (fun f => min (tS S f + soX A S (aHs A f)) 9999 - tS S f) i
theorem aSg_le {A : AV} {d s : Nat} : ∀ n i, n + i = aC A 3 → aSg A d s n i ≤ aC A 3
  | 0, i, _ => Nat.le_refl _
  | n + 1, i, e => by
    show (if _ then i else aSg A d s n (i + 1)) ≤ _
    split
    · omega
    · exact aSg_le n (i + 1) (by omega)
theorem aSign_neg {A : AV} (hW : WV A) (d s : Nat) : aSign A d s < 0 ↔ aSign A d s = -1 := by
  unfold aSign
  have h6 := hW.1.2.2.2.1
  have := aSg_le (A := A) (d := d) (s := s) (aC A 3) 0 (by omega)
  split
  · exact ⟨fun _ => rfl, fun _ => by decide⟩
  · refine ⟨fun q => absurd q (nI_pos (by omega)), fun q => ?_⟩
    rw [q]; decide
def inP (y z : Nat) : Prop := inM y z ∨ z = y + 37 ∨ z = y
theorem RS.same {r : Nat → Int32} {b : Nat} {S S' : AS} (p : RS r b S) (e : tH S' = tH S) (e1 : ∀ k, k < 4 → tF S' k = tF S k) (e2 : ∀ k, k < 4 → tL S' k = tL S k) (e3 : ∀ k, k < 20 → tT S' k = tT S k) (e4 : ∀ k, k < 3 → tS S' k = tS S k) : RS r b S' := ⟨by rw [e]; exact p.1, fun k hk => by rw [e1 k hk]; exact p.2.1 k hk, fun k hk => by rw [e2 k hk]; exact p.2.2.1 k hk, fun k hk => by rw [e3 k hk]; exact p.2.2.2.1 k hk, fun k hk => by rw [e4 k hk]; exact p.2.2.2.2 k hk⟩
section MP
variable {N : Nat} {A : AV} {S : AS} {J y : Nat}
theorem m_p125 (hW : WV A) (hT : WS A J S) : ∀ (n i : Nat) (h : PH), aC A 2 < n + i → i ≤ aC A 2 → MD h y → MV h y A → RS (hI h (y + 37)) 0 (sOut S i) → ∃ h', f_X11_passes_125 N n y (nI (outs S i)) (nI i) h = some (nI (outs S (aC A 2)), h') ∧ Ex (fun z => z = y + 37) h h' ∧ RS (hI h' (y + 37)) 0 (sLate (sOut S (aC A 2)))
  | 0, i, h, h1, h2, _, _, _ => by omega
  | n + 1, i, h, h1, h2, m, hC, hS => by
    have h4 := hW.1.2.2.1
    show ∃ h', f_X11_passes_125_b N (f_X11_passes_125 N n) y _ _ h = _ ∧ _
    unfold f_X11_passes_125_b
    rw [ck_p m.1, mR_valley m, rq_s, ck_p (mK_valley m), mN_valley m, ck_p (by decide), hC.1 2 (by decide), ite_i (nI_leI (by omega) (by omega))]
    have mvx : ∀ {k : Nat} {v : Int32} {g : PH}, MV g y A → MV (sI g (y + 37) k v) y A := fun {k v g} q => by
      unfold MV at q ⊢
      simp only [show ∀ j, j ≠ 37 → hI (sI g (y + 37) k v) (y + j) = hI g (y + j) from fun j hj => hI_sI_ne (by omega), ne_eq, Nat.reduceEqDiff, not_false_eq_true]
      exact q
    by_cases c : aC A 2 ≤ i
    · have e : i = aC A 2 := by omega
      subst e
      have e0 : hI h (y + 37) 0 = nI (tH S) := hS.1
      rw [if_pos c, mR_s m, rq_s, ck_p (mK_s m), mN_s m, ck_p (by decide), e0, nI_1, bd_e]
      refine ⟨_, rfl, Ex.sI rfl, ?_⟩
      rw [hI_sI_eq]
      refine ⟨va_eq, fun k hk => ?_, fun k hk => ?_, fun k hk => ?_, fun k hk => ?_⟩
      · rw [va_ne (by omega)]; exact hS.2.1 k hk
      · rw [va_ne (by omega)]; exact hS.2.2.1 k hk
      · rw [va_ne (by omega)]; exact hS.2.2.2.1 k hk
      · rw [va_ne (by omega)]; exact hS.2.2.2.2 k hk
    · have hi : i < 4 := by omega
      have hl := hT.2.1 i hi
      have el : tL (sOut S i) i = tL S i := if_neg (by omega)
      have ll : hI h (y + 37) (5 + i) = nI (tL S i) := by
        have := hS.2.2.1 i hi
        rw [el, Nat.zero_add] at this
        exact this
      rw [if_neg c, m_isFire m hS (hT.out i) hi, cl_s, el]
      unfold f_X11_passes_184
      by_cases b : 0 < tL S i
      · have n1 : (1 : Int32) + nI i = nI (1 + i) := nI_add 1 i
        have n5 : (5 : Int32) + nI i = nI (5 + i) := nI_add 5 i
        have i1 : inb (nI (1 + i)) 32 := nI_ix (by omega) (by omega)
        have i5 : inb (nI (5 + i)) 32 := nI_ix (by omega) (by omega)
        have k1 : ix (nI (1 + i)) = 1 + i := ix_nI (by omega)
        have k5 : ix (nI (5 + i)) = 5 + i := ix_nI (by omega)
        have em : nI (tL S i) - (1 : Int32) = nI (tL S i - 1) := pk_sub (b := 1) (by omega)
        rw [if_neg (fun z => yes0.mp z b), n1, n5, ck_p m.1, mR_s m, rq_s, bd_e, ck_p (mK_s m), mN_s m, ck_p i5, k5, ll, em, bd_e]
        have m2 : MD (sI h (y + 37) (5 + i) (nI (tL S i - 1))) y := m.sm Sm.sI
        rw [ck_p m2.1, mR_s m2, rq_s, ck_p (mK_s m2), mN_s m2, ck_p i5, hI_sI_eq, va_eq]
        by_cases o : tL S i = 1
        · rw [if_pos (show nI (tL S i - 1) ≤ 0 from nI_z (by omega)), rq_s, ck_p (mK_s m2), mN_s m2, ck_p i1, k1, bd_e, bd_e, bd_e, nI_1, nI_1]
          have hS3 : RS (hI (sI (sI h (y + 37) (5 + i) (nI (tL S i - 1))) (y + 37) (1 + i) (-1)) (y + 37)) 0 (sOut S (i + 1)) := by
            rw [hI_sI_eq, hI_sI_eq]
            refine ⟨?_, fun k hk => ?_, fun k hk => ?_, fun k hk => ?_, fun k hk => ?_⟩
            · rw [va_ne (by omega), va_ne (by omega)]; exact hS.1
            · show _ = nI (if k < i + 1 ∧ tL S k ≤ 1 then 0 else tF S k) + (-1)
              by_cases q : k = i
              · rw [q, show 0 + 1 + i = 1 + i by omega, va_eq, if_pos (by omega)]; rfl
              · rw [va_ne (by omega), va_ne (by omega), hS.2.1 k hk]
                show nI (if k < i ∧ tL S k ≤ 1 then 0 else tF S k) + (-1) = _
                rw [ite_i (show (k < i ∧ tL S k ≤ 1) ↔ (k < i + 1 ∧ tL S k ≤ 1) by omega)]
            · rw [va_ne (by omega)]
              show _ = nI (if k < i + 1 then tL S k - 1 else tL S k)
              by_cases q : k = i
              · rw [q, show 0 + 5 + i = 5 + i by omega, va_eq, if_pos (by omega)]
              · rw [va_ne (by omega), hS.2.2.1 k hk]
                show nI (if k < i then tL S k - 1 else tL S k) = _
                rw [ite_i (show (k < i) ↔ (k < i + 1) by omega)]
            · rw [va_ne (by omega), va_ne (by omega)]; exact hS.2.2.2.1 k hk
            · rw [va_ne (by omega), va_ne (by omega)]; exact hS.2.2.2.2 k hk
          obtain ⟨h', r1, r2, r3⟩ := m_p125 hW hT n (i + 1) _ (by omega) (by omega) (m2.sm Sm.sI) (mvx (mvx hC)) hS3
          refine ⟨h', ?_, ((Ex.sI (P := fun z => z = y + 37) rfl).trans (Ex.sI rfl)).trans r2, r3⟩
          rw [outs_s, if_pos o] at r1
          exact r1
        · rw [if_neg (nI_nle (by omega) (by omega)), bd_e, nI_1]
          have hS3 : RS (hI (sI h (y + 37) (5 + i) (nI (tL S i - 1))) (y + 37)) 0 (sOut S (i + 1)) := by
            rw [hI_sI_eq]
            refine ⟨?_, fun k hk => ?_, fun k hk => ?_, fun k hk => ?_, fun k hk => ?_⟩
            · rw [va_ne (by omega)]; exact hS.1
            · rw [va_ne (by omega), hS.2.1 k hk]
              show nI (if k < i ∧ tL S k ≤ 1 then 0 else tF S k) + (-1) = nI (if k < i + 1 ∧ tL S k ≤ 1 then 0 else tF S k) + (-1)
              by_cases q : k = i
              · subst q
                rw [if_neg (by omega), if_neg (by omega)]
              · rw [ite_i (show (k < i ∧ tL S k ≤ 1) ↔ (k < i + 1 ∧ tL S k ≤ 1) by omega)]
            · show _ = nI (if k < i + 1 then tL S k - 1 else tL S k)
              by_cases q : k = i
              · rw [q, show 0 + 5 + i = 5 + i by omega, va_eq, if_pos (by omega)]
              · rw [va_ne (by omega), hS.2.2.1 k hk]
                show nI (if k < i then tL S k - 1 else tL S k) = _
                rw [ite_i (show (k < i) ↔ (k < i + 1) by omega)]
            · rw [va_ne (by omega)]; exact hS.2.2.2.1 k hk
            · rw [va_ne (by omega)]; exact hS.2.2.2.2 k hk
          obtain ⟨h', r1, r2, r3⟩ := m_p125 hW hT n (i + 1) _ (by omega) (by omega) m2 (mvx hC) hS3
          refine ⟨h', ?_, (Ex.sI (P := fun z => z = y + 37) rfl).trans r2, r3⟩
          rw [outs_s, if_neg o] at r1
          exact r1
      · rw [if_pos (yes0.mpr b), bd_e, nI_1]
        have hS3 : RS (hI h (y + 37)) 0 (sOut S (i + 1)) := by
          refine hS.same rfl (fun k hk => ?_) (fun k hk => ?_) (fun _ _ => rfl) (fun _ _ => rfl)
          · show (if k < i + 1 ∧ tL S k ≤ 1 then 0 else tF S k) = (if k < i ∧ tL S k ≤ 1 then 0 else tF S k)
            by_cases q : k = i
            · subst q
              rw [if_pos (by omega), if_neg (by omega)]
              omega
            · rw [ite_i (show (k < i + 1 ∧ tL S k ≤ 1) ↔ (k < i ∧ tL S k ≤ 1) by omega)]
          · show (if k < i + 1 then tL S k - 1 else tL S k) = (if k < i then tL S k - 1 else tL S k)
            by_cases q : k = i
            · subst q
              rw [if_pos (by omega), if_neg (by omega)]
              omega
            · rw [ite_i (show (k < i + 1) ↔ (k < i) by omega)]
        obtain ⟨h', r1, r2, r3⟩ := m_p125 hW hT n (i + 1) h (by omega) (by omega) m hC hS3
        refine ⟨h', ?_, r2, r3⟩
        rw [outs_s, if_neg (by omega)] at r1
        exact r1
/-- houses that are none burn nothing: an hour over all four is an hour over those told -/
theorem out4 (hW : WV A) (hT : WS A J S) : outs S (aC A 2) = outs S 4 ∧ (∀ k, k < 4 → tF (sLate (sOut S 4)) k = tF (sLate (sOut S (aC A 2))) k) ∧ ∀ k, k < 4 → tL (sLate (sOut S 4)) k = tL (sLate (sOut S (aC A 2))) k := by
  have h4 := hW.1.2.2.1
  refine ⟨?_, fun k hk => ?_, fun k hk => ?_⟩
  · have : ∀ j, aC A 2 + j ≤ 4 → outs S (aC A 2 + j) = outs S (aC A 2) := by
      intro j
      induction j with
      | zero => intro _; rfl
      | succ j ih =>
        intro hj
        have z := (hT.2.1 (aC A 2 + j) (by omega)).2.2.2 (by omega)
        rw [← Nat.add_assoc, outs_s, ih (by omega), if_neg (by omega), Nat.add_zero]
    have q := this (4 - aC A 2) (by omega)
    rw [show aC A 2 + (4 - aC A 2) = 4 by omega] at q
    exact q.symm
  · show (if k < 4 ∧ tL S k ≤ 1 then 0 else tF S k) = (if k < aC A 2 ∧ tL S k ≤ 1 then 0 else tF S k)
    have z := hT.2.1 k hk
    by_cases c : k < aC A 2
    · rw [ite_i (show (k < 4 ∧ tL S k ≤ 1) ↔ (k < aC A 2 ∧ tL S k ≤ 1) by omega)]
    · rw [if_neg (show ¬ (k < aC A 2 ∧ tL S k ≤ 1) by omega), if_pos (by omega)]
      omega
  · show (if k < 4 then tL S k - 1 else tL S k) = (if k < aC A 2 then tL S k - 1 else tL S k)
    have z := hT.2.1 k hk
    by_cases c : k < aC A 2
    · rw [if_pos c, if_pos hk]
    · rw [if_neg c, if_pos hk]
      omega
/-- behind i flues: the state, the signs read, the soot that came -/
def MPs (h : PH) (y : Nat) (A : AV) (S : AS) (i : Nat) : Prop := RS (hI h (y + 37)) 0 (sSoot A S i) ∧ hI h y 55 = nI (sgs A S i) ∧ hI h y 56 = nI (came A S i)
theorem came_le (hT : WS A J S) : ∀ i, i ≤ 3 → came A S i ≤ 9999 * i
  | 0, _ => by simp [came, fb_sm]
  | i + 1, hi => by
    have := came_le hT i (by omega)
    show came A S i + (min (tS S i + soX A S (aHs A i)) 9999 - tS S i) ≤ _
    omega
theorem m_p12 (hN : 2000 ≤ N) (hT : WS A J S) (hJ : J < 2 ^ 30) : ∀ (n i : Nat) (h : PH), aC A 1 < n + i → i ≤ aC A 1 → MA N h y A → MPs h y A S i → ∃ h', f_X11_passes_12 N n y (nI i) h = some (nI (outs S 4), h') ∧ Ex (inP y) h h' ∧ RS (hI h' (y + 37)) 0 (sPass A S) ∧ hI h' y 55 = nI (sgs A S (aC A 1)) ∧ hI h' y 56 = nI (came A S (aC A 1)) ∧ ∀ k, k ≠ 55 → k ≠ 56 → hI h' y k = hI h y k
  | 0, i, h, h1, h2, _, _ => by omega
  | n + 1, i, h, h1, h2, p, ⟨hS, g5, g6⟩ => by
    obtain ⟨m, hC, hW, _⟩ := id p
    have h3 := hW.1.2.1
    show ∃ h', f_X11_passes_12_b N (f_X11_passes_12 N n) y _ h = _ ∧ _
    unfold f_X11_passes_12_b
    rw [ck_p m.1, mR_valley m, rq_s, ck_p (mK_valley m), mN_valley m, ck_p (by decide), hC.1 1 (by decide), ite_i (nI_leI (by omega) (by omega))]
    by_cases c : aC A 1 ≤ i
    · have e : i = aC A 1 := by omega
      subst e
      rw [if_pos c]
      have hT2 := hT.soot (aC A 1)
      obtain ⟨o1, o2, o3⟩ := out4 hW hT2
      have hS0 : RS (hI h (y + 37)) 0 (sOut (sSoot A S (aC A 1)) 0) := hS.same rfl (fun k _ => out0F _ k) (fun k _ => out0L _ k) (fun _ _ => rfl) (fun _ _ => rfl)
      obtain ⟨h', r1, r2, r3⟩ := m_p125 (N := N) hW hT2 N 0 h (by have := hW.1.2.2.1; omega) (by omega) m hC hS0
      have ey : hI h' y = hI h y := r2.2.2.2 y (by omega)
      refine ⟨h', ?_, r2.mono (fun z hz => Or.inr (Or.inl hz)), r3.same rfl o2 o3 (fun _ _ => rfl) (fun _ _ => rfl), by rw [ey]; exact g5, by rw [ey]; exact g6, fun k _ _ => by rw [ey]⟩
      rw [o1] at r1
      exact r1
    · have hT2 := hT.soot i
      obtain ⟨ha, a1, a2⟩ := m_smokeOf hN p hS hT2 hJ (f := i) (b := 0) (by omega) (by decide)
      have pa := p.ex a2 (fun z z1 z2 z3 => by unfold inM at z3; omega)
      have hSa := hS.ex a2 (by unfold inM; omega)
      obtain ⟨hb, b1, b2⟩ := m_smokeOf hN pa hSa hT2 hJ (f := i) (b := 1) (by omega) (by decide)
      have pb := pa.ex b2 (fun z z1 z2 z3 => by unfold inM at z3; omega)
      have hSb := hSa.ex b2 (by unfold inM; omega)
      have a1 : f_X11_smokeOf N y (nI i) 0 h = some (nI (smX A S (aHs A i) 0), ha) := a1
      have b1 : f_X11_smokeOf N y (nI i) 1 ha = some (nI (smX A S (aHs A i) 1), hb) := b1
      have eb : hI hb y = hI h y := ((a2.trans b2).2.2.2 y (by unfold inM; omega))
      have s0 := smX_le A S (aHs A i) 0
      have s1 := smX_le A S (aHs A i) 1
      rw [if_neg c, a1, cl_s, ck_p pa.1.1, b1, cl_s, ck_p pb.1.1, m_signOf (by omega) pb.1 pb.2.1 hW s0 s1, cl_s, eb, g5]
      -- the rest, for either sign
      have go : ∀ t : Nat, t ≤ 1 → sgs A S (i + 1) = sgs A S i + t → ∃ h', f_X11_passes_55 N (f_X11_passes_12 N n) (nI t) (nI (sgs A S i)) y y (nI i) (nI (smX A S (aHs A i) 0)) (nI (smX A S (aHs A i) 1)) hb = some (nI (outs S 4), h') ∧ Ex (inP y) h h' ∧ RS (hI h' (y + 37)) 0 (sPass A S) ∧ hI h' y 55 = nI (sgs A S (aC A 1)) ∧ hI h' y 56 = nI (came A S (aC A 1)) ∧ ∀ k, k ≠ 55 → k ≠ 56 → hI h' y k = hI h y k := by
        intro t ht hst
        have n29 : (29 : Int32) + nI i = nI (29 + i) := nI_add 29 i
        have i29 : inb (nI (29 + i)) 32 := nI_ix (by omega) (by omega)
        have k29 : ix (nI (29 + i)) = 29 + i := ix_nI (by omega)
        have b9 := hT.2.2.2.2 i (by omega)
        have bO : soX A S (aHs A i) ≤ 999 := hW.2.2.2.2.2.2.2.2.2 _ _ _
        unfold f_X11_passes_55
        rw [n29, ck_p pb.1.1, nI_add, bd_e]
        have x1 : Ex (inP y) hb (sI hb y 55 (nI (sgs A S i + t))) := Ex.sI (Or.inr (Or.inr rfl))
        generalize hh1 : sI hb y 55 (nI (sgs A S i + t)) = hc at x1 ⊢
        have ec : hI hc y = va_up (hI hb y) 55 (nI (sgs A S i + t)) := by rw [← hh1, hI_sI_eq]
        have er : hI hc (y + 37) = hI hb (y + 37) := by rw [← hh1, hI_sI_ne (by omega)]
        have pc := pb.ex x1 (fun z z1 z2 z3 => by unfold inP inM at z3; omega)
        have hSc : RS (hI hc (y + 37)) 0 (sSoot A S i) := by rw [er]; exact hSb
        have v7 : hI hc (y + 37) (29 + i) = nI (tS S i) := by
          have q := hSc.2.2.2.2 i (by omega)
          rw [Nat.zero_add, show tS (sSoot A S i) i = tS S i from if_neg (by omega)] at q
          exact q
        obtain ⟨hd, d1, d2⟩ := m_sootBy pc hSc hT2 hJ s0 s1
        have d1 : f_X11_sootBy N y (nI (smX A S (aHs A i) 0)) (nI (smX A S (aHs A i) 1)) hc = some (nI (soX A S (aHs A i)), hd) := d1
        have pd := pc.ex d2 (fun z z1 z2 z3 => by unfold inM at z3; omega)
        have hSd := hSc.ex d2 (by unfold inM; omega)
        have ed : hI hd y = hI hc y := d2.2.2.2 y (by unfold inM; omega)
        rw [ck_p pc.1.1, mR_s pc.1, rq_s, ck_p (mK_s pc.1), mN_s pc.1, ck_p i29, bd_e, rq_s, d1, cl_s, ck_p (mK_s pd.1), mN_s pd.1, ck_p i29, k29, v7, nI_add, show (9999 : Int32) = nI 9999 from rfl, min9' (by omega) (by decide), bd_e]
        have x2 : Ex (inP y) hd (sI hd (y + 37) (29 + i) (nI (min (tS S i + soX A S (aHs A i)) 9999))) := Ex.sI (Or.inr (Or.inl rfl))
        generalize hh2 : sI hd (y + 37) (29 + i) (nI (min (tS S i + soX A S (aHs A i)) 9999)) = he at x2 ⊢
        have ee : hI he y = hI hd y := by rw [← hh2, hI_sI_ne (by omega)]
        have er2 : hI he (y + 37) = va_up (hI hd (y + 37)) (29 + i) (nI (min (tS S i + soX A S (aHs A i)) 9999)) := by rw [← hh2, hI_sI_eq]
        have pe := pd.ex x2 (fun z z1 z2 z3 => by unfold inP inM at z3; omega)
        have e56 : hI he y 56 = nI (came A S i) := by rw [ee, ed, ec, va_ne (by decide), eb]; exact g6
        rw [ck_p pe.1.1, mR_s pe.1, rq_s, ck_p (mK_s pe.1), mN_s pe.1, ck_p i29, er2, va_eq, e56, pk_sub (by omega), nI_add, bd_e, bd_e, nI_1]
        have x3 : Ex (inP y) he (sI he y 56 (nI (came A S i + (min (tS S i + soX A S (aHs A i)) 9999 - tS S i)))) := Ex.sI (Or.inr (Or.inr rfl))
        generalize hh3 : sI he y 56 (nI (came A S i + (min (tS S i + soX A S (aHs A i)) 9999 - tS S i))) = hf at x3 ⊢
        have ef : hI hf y = va_up (hI he y) 56 (nI (came A S i + (min (tS S i + soX A S (aHs A i)) 9999 - tS S i))) := by rw [← hh3, hI_sI_eq]
        have er3 : hI hf (y + 37) = hI he (y + 37) := by rw [← hh3, hI_sI_ne (by omega)]
        have pf := pe.ex x3 (fun z z1 z2 z3 => by unfold inP inM at z3; omega)
        have ps : MPs hf y A S (i + 1) := by
          refine ⟨?_, ?_, ?_⟩
          · rw [er3, er2]
            refine ⟨?_, fun k hk => ?_, fun k hk => ?_, fun k hk => ?_, fun k hk => ?_⟩
            · rw [va_ne (by omega)]; exact hSd.1
            · rw [va_ne (by omega)]; exact hSd.2.1 k hk
            · rw [va_ne (by omega)]; exact hSd.2.2.1 k hk
            · rw [va_ne (by omega)]; exact hSd.2.2.2.1 k hk
            · show _ = nI (if k < i + 1 then min (tS S k + soX A S (aHs A k)) 9999 else tS S k)
              by_cases q : k = i
              · rw [q, show 0 + 29 + i = 29 + i by omega, va_eq, if_pos (by omega)]
              · rw [va_ne (by omega), hSd.2.2.2.2 k hk]
                show nI (if k < i then min (tS S k + soX A S (aHs A k)) 9999 else tS S k) = _
                rw [ite_i (show (k < i) ↔ (k < i + 1) by omega)]
          · rw [ef, va_ne (by decide), ee, ed, ec, va_eq, hst]
          · rw [ef, va_eq]; rfl
        obtain ⟨h', r1, r2, r3, r4, r5, r6⟩ := m_p12 hN hT hJ n (i + 1) hf (by omega) (by omega) pf ps
        have up : ∀ {u w : PH}, Ex (inM y) u w → Ex (inP y) u w := fun q => q.mono (fun z hz => Or.inl hz)
        refine ⟨h', r1, (((((up a2).trans (up b2)).trans x1).trans (up d2)).trans x2).trans (x3.trans r2), r3, r4, r5, fun k k1 k2 => ?_⟩
        rw [r6 k k1 k2, ef, va_ne k2, ee, ed, ec, va_ne k1, eb]
      have ng := aSign_neg hW (smX A S (aHs A i) 0) (smX A S (aHs A i) 1)
      by_cases q : aSign A (smX A S (aHs A i) 0) (smX A S (aHs A i) 1) < 0
      · rw [if_pos q]
        exact go 0 (by decide) (by show sgs A S i + (if sgn A S i = -1 then 0 else 1) = _; rw [if_pos (show sgn A S i = -1 from ng.mp q)])
      · rw [if_neg q]
        exact go 1 (by decide) (by show sgs A S i + (if sgn A S i = -1 then 0 else 1) = _; rw [if_neg (show ¬ sgn A S i = -1 from fun z => q (ng.mpr z))])
theorem m_passes (hN : 2000 ≤ N) {h : PH} (p : MA N h y A) (hS : RS (hI h (y + 37)) 0 S) (hT : WS A J S) (hJ : J < 2 ^ 30) : ∃ h', f_X11_passes N y h = some (nI (outs S 4), h') ∧ Ex (inP y) h h' ∧ RS (hI h' (y + 37)) 0 (sPass A S) ∧ hI h' y 55 = nI (sgs A S (aC A 1)) ∧ hI h' y 56 = nI (came A S (aC A 1)) ∧ ∀ k, k ≠ 55 → k ≠ 56 → hI h' y k = hI h y k := by
  have hW := p.2.2.1
  have x1 : Ex (inP y) h (sI (sI h y 55 0) y 56 0) := (Ex.sI (Or.inr (Or.inr rfl))).trans (Ex.sI (Or.inr (Or.inr rfl)))
  have p2 := p.ex x1 (fun z z1 z2 z3 => by unfold inP inM at z3; omega)
  have ey : hI (sI (sI h y 55 0) y 56 0) y = va_up (va_up (hI h y) 55 0) 56 0 := by rw [hI_sI_eq, hI_sI_eq]
  have ps : MPs (sI (sI h y 55 0) y 56 0) y A S 0 := by
    refine ⟨?_, ?_, ?_⟩
    · rw [hI_sI_ne (by omega), hI_sI_ne (by omega)]
      exact hS.same rfl (fun _ _ => rfl) (fun _ _ => rfl) (fun _ _ => rfl) (fun k _ => soot0 A S k)
    · rw [ey, va_ne (by decide), va_eq]; rfl
    · rw [ey, va_eq]; rfl
  obtain ⟨h', r1, r2, r3, r4, r5, r6⟩ := m_p12 hN hT hJ N 0 _ (by have := hW.1.2.1; omega) (by omega) p2 ps
  refine ⟨h', ?_, x1.trans r2, r3, r4, r5, fun k k1 k2 => ?_⟩
  · unfold f_X11_passes
    rw [ck_p p.1.1, bd_e, ck_p (show hK (sI h y 55 0) y = 10 from p.1.1), bd_e]
    exact r1
  · rw [r6 k k1 k2, ey, va_ne k2, va_ne k1]
end MP
