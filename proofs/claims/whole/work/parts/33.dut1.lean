/-! Duties: house, count, burn, hour, undo, lend, read. -/
theorem wp2 {r : Int32} {o1 : Option (Int32 × PH)} {g : PH → Option (Int32 × PH)} {h1 h2 : PH} {y : Nat} {I : PH → Prop} (e1 : o1 = some (r, h1)) (k : hK h1 y = 10) (e2 : g h1 = some (r, h2)) (i : I h2) : wp o1 (fun r h1 => hK h1 y = 10 ∧ wp (g h1) (fun r2 h2 => r = r2 ∧ I h2)) := ⟨r, h1, e1, k, r, h2, e2, rfl, i⟩
section DU
variable {N x y o J : Nat}
theorem d_house : D_house (INV N x y o J) (INV N x y o (J + 1)) N x y := by
  intro a b h ⟨v, w, A, M, pn, pc, P, lb, K, tn, tb, q⟩
  obtain ⟨p0, ob, pv, pm, pnm, ⟨cM, rS, rD, rR, wM⟩, pP, pK, pT⟩ := id q
  have hW := pv.2.2.1
  have h5 := hW.1.1
  have h4 := hW.1.2.2.1
  have q2 := q.thr 0
  obtain ⟨-, -, -, pm2, -, ⟨-, rS2, -, -, -⟩, -⟩ := id q2
  have m2 := pm2.1
  obtain ⟨r, e1, e2⟩ : ∃ r, f_X10_house N x a b h = some (r, h) ∧ f_X11_house N y a b h = some (r, sI h y 0 0) := by
    unfold f_X10_house f_X11_house
    rw [ck_p ob.k9, ob.R8, rq_s, ck_p pv.1.1, c_has2 pv, cl_s, ck_p pm.1.1, bd_e, ck_p m2.1, m_isHouse m2 pm2.2.1, cl_s]
    by_cases c : ¬ a < 0 ∧ ¬ nI (aC A 2) ≤ a
    rotate_left
    · rw [yesF c, if_pos rfl, if_pos rfl]
      exact ⟨_, rfl, rfl⟩
    obtain ⟨i, hi, rfl⟩ := told (by omega) c
    rw [yesT c, if_neg one0, if_neg one0]
    by_cases l : b < 0
    · rw [if_neg (fun z => (fa_of_lt l).2.1 z), if_pos l]
      exact ⟨_, rfl, rfl⟩
    obtain ⟨k, hk, rfl⟩ := nI_of l
    have ii : ∀ n, 4 ≤ n → n ≤ 100 → inb (nI i) n := fun n h1 h2 => nI_ix (by omega) (by omega)
    have e3 : (3 : Int32) + nI (aC A 0) = nI (3 + aC A 0) := nI_add 3 _
    have b3 : (3 : Int32) ≤ nI k ↔ 3 ≤ k := nI_leI (a := 3) (by omega) hk
    have b0 : nI k = 0 ↔ k = 0 := nI_eq (b := 0) hk (by omega)
    have b1 : nI k = 1 ↔ k = 1 := nI_eq (b := 1) hk (by omega)
    have b2 : nI k = 2 ↔ k = 2 := nI_eq (b := 2) hk (by omega)
    rw [if_pos (nI_pos' hk), ck_p ob.k9, ob.R1, rq_s, ck_p ob.mt.1, ob.mt.2.1.1, rq_s, if_neg l, ck_p m2.1, mR_valley m2, rq_s, ck_p (mK_valley m2), mN_valley m2, ck_p (show 0 < 12 by decide), pm2.2.1.1 0 (by decide), e3, ite_i (nI_ltI hk (by omega))]
    by_cases k0 : k = 0
    · subst k0
      rw [if_pos (by rfl), ob.R8, rq_s, ck_p pv.1.1, vR_flue pv.1, rq_s, ck_p (vK_flue pv.1), vN_flue pv.1, ck_p (ii 4 (by omega) (by omega)), ix_nI (by omega), pv.2.1.2.2.2.1 i hi]
      rw [if_pos (by omega), ite_i b3, if_neg (by omega), if_pos (by rfl), mR_houseAt m2, rq_s, ck_p (mK_houseAt m2), mN_houseAt m2, ck_p (ii 8 (by omega) (by omega)), pm2.2.1.2.2.1 i hi]
      exact ⟨_, rfl, rfl⟩
    by_cases k1 : k = 1
    · subst k1
      rw [ite_i b0, if_neg k0, if_pos (by rfl), ck_p ob.st.1, sR_fuel ob.st, rq_s, ck_p (sK_fuel ob.st), sN_fuel ob.st, ck_p (ii 4 (by omega) (by omega)), ix_nI (by omega), cM.1.2.2.1 i (by omega)]
      have e := rS2.2.1 i (by omega)
      rw [Nat.zero_add] at e
      rw [if_pos (by omega), ite_i b3, if_neg (by omega), ite_i b0, if_neg k0, if_pos (by rfl), mR_s m2, rq_s, ck_p (mK_s m2), mN_s m2, show (1 : Int32) + nI i = nI (1 + i) from nI_add 1 i, ck_p (nI_ix (by omega) (by omega)), ix_nI (by omega), e]
      exact ⟨_, rfl, rfl⟩
    by_cases k2 : k = 2
    · subst k2
      rw [ite_i b0, if_neg k0, ite_i b1, if_neg k1, if_pos (by rfl), ck_p ob.st.1, sR_left ob.st, rq_s, ck_p (sK_left ob.st), sN_left ob.st, ck_p (ii 4 (by omega) (by omega)), ix_nI (by omega), cM.1.2.2.2.1 i (by omega)]
      have e := rS2.2.2.1 i (by omega)
      rw [Nat.zero_add] at e
      rw [if_pos (by omega), ite_i b3, if_neg (by omega), ite_i b0, if_neg k0, ite_i b1, if_neg k1, mR_s m2, rq_s, ck_p (mK_s m2), mN_s m2, show (5 : Int32) + nI i = nI (5 + i) from nI_add 5 i, ck_p (nI_ix (by omega) (by omega)), ix_nI (by omega), e]
      exact ⟨_, rfl, rfl⟩
    have ek : nI k - (3 : Int32) = nI (k - 3) := pk_sub (b := 3) (by omega)
    rw [ite_i b0, if_neg k0, ite_i b1, if_neg k1, ite_i b2, if_neg k2, ob.R8, rq_s, ck_p pv.1.1, ek, c_has0 pv, cl_s]
    by_cases c2 : k < 3 + aC A 0
    · have e := rS2.2.2.2.1 (5 * i + (k - 3)) (by omega)
      rw [Nat.zero_add] at e
      have em : (((9 : Int32) + (5 : Int32) * nI i) + nI k) - (3 : Int32) = nI (9 + (5 * i + (k - 3))) := by
        rw [m_ix, show (3 : Int32) = nI 3 from rfl, pk_sub (by omega)]
        congr 1
        omega
      rw [yesT (toldI (by omega) (show k - 3 < aC A 0 by omega)), if_neg one0, ck_p ob.st.1, c_stockOf ob.st cM.1 (by omega) (by omega), cl_s]
      rw [if_pos c2, ite_i b3, if_pos (by omega), mR_s m2, rq_s, em, ck_p (mK_s m2), mN_s m2, ck_p (nI_ix (by omega) (by omega)), ix_nI (by omega), e]
      exact ⟨_, rfl, rfl⟩
    · rw [yesF (fun z => z.2 (nI_le (by omega) (by omega))), if_pos rfl]
      rw [if_neg c2]
      exact ⟨_, rfl, rfl⟩
  exact wp2 e1 pm.1.1 e2 q2.inv
theorem yes_g {c : Prop} [Decidable c] : yes c = 0 ∨ yes c = 1 := by
  unfold yes
  split
  · exact Or.inr rfl
  · exact Or.inl rfl
theorem c_canBurn {v w : Nat} {A : AV} {S : AS} {h : PH} (ob : OB h x v w) (pv : VA h v A) (cS : CS h (x + 3 + 1) S) (wS : WS A J S) (a b : Int32) : f_X10_canBurn N x a b h = some (yes ((¬ a < 0 ∧ ¬ nI (aC A 2) ≤ a) ∧ (¬ b < 0 ∧ ¬ nI (aC A 0) ≤ b) ∧ tL S (ix a) = 0 ∧ 0 < tT S (5 * ix a + ix b)), h) := by
  have hW := pv.2.2.1
  have h5 := hW.1.1
  have h4 := hW.1.2.2.1
  unfold f_X10_canBurn
  rw [ck_p ob.k9, ob.R8, rq_s, ck_p pv.1.1, c_has2 pv, cl_s]
  by_cases c : ¬ a < 0 ∧ ¬ nI (aC A 2) ≤ a
  · rw [yesT c, if_neg one0, ck_p ob.k9, ob.R8, rq_s, ck_p pv.1.1, c_has0 pv, cl_s]
    by_cases c2 : ¬ b < 0 ∧ ¬ nI (aC A 0) ≤ b
    · rw [yesT c2, if_neg one0, ck_p ob.k9, ob.R1, rq_s, ck_p ob.mt.1, ob.mt.2.1.1, rq_s, ck_p ob.st.1]
      obtain ⟨i, hi, rfl⟩ := told (by omega) c
      obtain ⟨f, hf, rfl⟩ := told (by omega) c2
      rw [c_canLight ob.st cS wS (by omega) (by omega), cl_s, ix_nI (by omega), ix_nI (by omega)]
      by_cases c3 : tL S i = 0 ∧ 0 < tT S (5 * i + f)
      · rw [yesT c3, if_neg one0, yesT ⟨c, c2, c3⟩]
      · rw [yesF c3, if_pos rfl, yesF (fun z => c3 z.2.2)]
    · rw [yesF c2, if_pos rfl, yesF (fun z => c2 z.2.1)]
  · rw [yesF c, if_pos rfl, yesF (fun z => c z.1)]
/-- what a kept state does to those that can be undone -/
theorem push_c {h h1 h2 : PH} {A : AV} {pn pc : Nat} {P : Nat → AS} {S : AS} (pP : IP h x y A J pn pc P) (wS : WS A J S) (e1 : Ex (fun z => z = x ∨ inS (x + 123 + 5 * pn) z) h h1) (ex : hI h1 x = va_up (va_up (hI h x) 13 (nI ((pn + 1) % 16))) 14 (nI (min (pc + 1) 16))) (cs : CS h1 (x + 123 + 5 * pn) S) (g : ∀ z, x + 123 ≤ z → z < x + 203 → hI h2 z = hI h1 z) (gx : ∀ k, k = 13 ∨ k = 14 → hI h2 x k = hI h1 x k) (ey : hI h2 y 54 = nI (min (pc + 1) 16)) (rs : ∀ i, i < min (pc + 1) 16 → RS (hI h2 (y + 40)) (32 * i) (pushP P pc S i)) : IP h2 x y A J ((pn + 1) % 16) (min (pc + 1) 16) (pushP P pc S) := by
  obtain ⟨⟨b1, b2, b3, b4, b5⟩, b6⟩ := pP
  have tr : ∀ (s : Nat) (S' : AS) (u u' : PH), (∀ z, s ≤ z → z < s + 5 → hI u' z = hI u z) → CS u s S' → CS u' s S' := by
    intro s S' u u' gg c
    unfold CS at c ⊢
    rw [gg s (by omega) (by omega), gg (s + 1) (by omega) (by omega), gg (s + 2) (by omega) (by omega), gg (s + 3) (by omega) (by omega), gg (s + 4) (by omega) (by omega)]
    exact c
  refine ⟨⟨by omega, by omega, by rw [gx 13 (Or.inl rfl), ex, va_ne (by decide), va_eq], by rw [gx 14 (Or.inr rfl), ex, va_eq], ey⟩, fun i hi => ⟨?_, rs i hi, ?_⟩⟩
  · unfold pushP
    by_cases c : pc = 16
    · rw [if_pos c]
      by_cases c2 : i = 15
      · rw [if_pos c2, show ((pn + 1) % 16 + 16 - min (pc + 1) 16 + i) % 16 = pn by omega]
        exact tr _ _ _ _ (fun z z1 z2 => g z (by omega) (by omega)) cs
      · rw [if_neg c2, show ((pn + 1) % 16 + 16 - min (pc + 1) 16 + i) % 16 = (pn + 16 - pc + (i + 1)) % 16 by omega]
        have q := (b6 (i + 1) (by omega)).1
        refine tr _ _ _ _ (fun z z1 z2 => ?_) q
        rw [g z (by omega) (by omega), e1.2.2.2 z (by unfold inS; omega)]
    · rw [if_neg c]
      by_cases c2 : i = pc
      · rw [if_pos c2, show ((pn + 1) % 16 + 16 - min (pc + 1) 16 + i) % 16 = pn by omega]
        exact tr _ _ _ _ (fun z z1 z2 => g z (by omega) (by omega)) cs
      · rw [if_neg c2, show ((pn + 1) % 16 + 16 - min (pc + 1) 16 + i) % 16 = (pn + 16 - pc + i) % 16 by omega]
        have q := (b6 i (by omega)).1
        refine tr _ _ _ _ (fun z z1 z2 => ?_) q
        rw [g z (by omega) (by omega), e1.2.2.2 z (by unfold inS; omega)]
  · unfold pushP
    by_cases c : pc = 16
    · rw [if_pos c]
      by_cases c2 : i = 15
      · rw [if_pos c2]; exact wS
      · rw [if_neg c2]; exact (b6 (i + 1) (by omega)).2.2
    · rw [if_neg c]
      by_cases c2 : i = pc
      · rw [if_pos c2]; exact wS
      · rw [if_neg c2]; exact (b6 i (by omega)).2.2
/-- the cells that a step of a state touches -/
def St (x y z : Nat) : Prop := z = x ∨ z = x + 3 ∨ (x + 4 ≤ z ∧ z < x + 9) ∨ (x + 43 ≤ z ∧ z < x + 79 ∧ z ≠ x + 54 ∧ z ≠ x + 57 ∧ z ≠ x + 72 ∧ z ≠ x + 75) ∨ (x + 123 ≤ z ∧ z < x + 203) ∨ z = y ∨ (y + 15 ≤ z ∧ z ≤ y + 26) ∨ z = y + 33 ∨ z = y + 37 ∨ z = y + 40
theorem step_fin {h h' : PH} {v w : Nat} {A : AV} {M : AM} {S' : AS} {R' : AR} {J' pn pc pn' pc' : Nat} {P P' : Nat → AS} {lb : Nat → Bool} {K : Nat → AM} {tn : Nat} {tb : Nat → Nat} (q : INVq N x y o J h v w A M pn pc P lb K tn tb) (hJ : J ≤ J') (g : Ex (St x y) h h') (hv : VA h' v A) (ex : hI h' x 12 = hI h x 12) (ey : hI h' y 1 = hI h y 1) (e33 : ∀ k, k ≠ 0 → hI h' (y + 33) k = hI h (y + 33) k) (cs : CS h' (x + 3 + 1) S') (rs : RS (hI h' (y + 37)) 0 S') (cr : CR h' (x + 3) R') (rr : RR h' y 0 R') (ws : WS A J' S') (wr : WR A R') (ip : IP h' x y A J' pn' pc' P') : INVq N x y o J' h' v w A (S', M.2.1, R') pn' pc' P' lb K tn tb := by
  obtain ⟨p0, ob, pv, pm, pnm, ⟨cM, rS, rD, rR, wM⟩, pP, pK, pT⟩ := id q
  have y0 := p0.1
  have z0 := p0.2.2.1
  have z1 := p0.2.1
  have vw := ob.1
  have k1 : Kx x (fun z => ¬ St x y z) h h' := g.kx (fun z hz => hz)
  refine ⟨p0.shp g.shp (fun z hz => (k1.2 z (by unfold St; omega)).1), ob.shp g.shp, hv, pm.kx k1 (fun z z1 z2 => by unfold St; omega) (by omega) (by omega), ?_, ⟨⟨cs, cM.2.1.kx k1 (fun z z1 z2 => by unfold St; omega), cr⟩, rs, rD.kx k1 (fun z z1 z2 => by unfold St; omega), rr, ws, wM.2.1, wr⟩, ip, ?_, pT.kx k1 (by rw [g.2.2.2 (x + 1) (by unfold St; omega)]) ey (fun z hz => by unfold St; omega)⟩
  · unfold NM at pnm ⊢
    rw [g.2.2.1]
    exact pnm
  · refine ⟨ex.trans pK.1, fun i hi => ?_⟩
    obtain ⟨q1, q2⟩ := pK.2 i hi
    refine ⟨by rw [(k1.2 (y + 41) (by unfold St; omega)).1]; exact q1, fun l => ?_⟩
    obtain ⟨t1, t2, t3, t4, t5⟩ := q2 l
    refine ⟨t1.kx k1 (fun z z1 z2 => by unfold St; omega), t2.kx k1 (by unfold St; omega), t3.kx k1 (fun z z1 z2 => by unfold St; omega), ?_, t5.up hJ⟩
    unfold RR at t4 ⊢
    rw [e33 _ (by omega), g.2.2.2 (y + 34) (by unfold St; omega), g.2.2.2 (y + 35) (by unfold St; omega), g.2.2.2 (y + 36) (by unfold St; omega)]
    exact t4
end DU
