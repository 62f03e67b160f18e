/-! The duty of judged. -/
def Kp2 (x y z : Nat) : Prop := (x ≤ z ∧ z ≤ x + 15) ∨ (z = x + 36 ∨ z = x + 37) ∨ (z = x + 54 ∨ z = x + 57 ∨ z = x + 72 ∨ z = x + 75) ∨ (x + 79 ≤ z ∧ z < x + 203) ∨ (y + 1 ≤ z ∧ z ≤ y + 14) ∨ (y + 27 ≤ z ∧ z ≤ y + 36) ∨ (y + 39 ≤ z ∧ z ≤ y + 41)
theorem INVq.keep2 {N x y o J : Nat} {h h' : PH} {v w : Nat} {A : AV} {M : AM} {pn pc : Nat} {P : Nat → AS} {lb : Nat → Bool} {K : Nat → AM} {tn : Nat} {tb : Nat → Nat} (g : Kx x (Kp2 x y) h h') (hv : VA h' v A) (hj : hJ h' (v + 2) = hJ h (v + 2)) (e1 : hI h' y 1 = hI h y 1) (e54 : hI h' y 54 = hI h y 54) (rs : RS (hI h' (y + 37)) 0 M.1) (p : INVq N x y o J h v w A M pn pc P lb K tn tb) : INVq N x y o J h' v w A M pn pc P lb K tn tb := by
  obtain ⟨p0, pb, pv, pm, pn, ⟨p1, p2, p3, p4, p5⟩, pP, pK, pT⟩ := p
  have y0 := p0.1
  have z0 := p0.2.2.1
  have z1 := p0.2.1
  have ex : hI h' x = hI h x := (g.2 x (Or.inl ⟨Nat.le_refl _, by omega⟩)).1
  have ex1 : hI h' (x + 1) = hI h (x + 1) := (g.2 (x + 1) (Or.inl ⟨by omega, by omega⟩)).1
  refine ⟨p0.shp g.1 (fun z hz => (g.2 z (by unfold Kp2; omega)).1), pb.shp g.1, hv, pm.kx g (fun z z1 z2 => by unfold Kp2; omega) (by omega) (by omega), ?_, ⟨p1.kx g (fun z z1 z2 => by unfold Kp2; omega), rs, p3.kx g (fun z z1 z2 => by unfold Kp2; omega), p4.kx g (fun z z1 z2 => by unfold Kp2; omega), p5⟩, pP.kx g (fun k _ => by rw [ex]) e54 (fun z hz => by unfold Kp2; omega), pK.kx g (by rw [ex]) (fun z hz => by unfold Kp2; omega), pT.kx g (by rw [ex1]) e1 (fun z hz => by unfold Kp2; omega)⟩
  unfold NM at pn ⊢
  rw [hj, (g.2 (y + 3) (by unfold Kp2; omega)).2]
  exact pn
theorem yes_yb {P : Prop} [Decidable P] {b : Bool} (h : P ↔ b = true) : yes P = yb b := ite_i h
theorem yb0 {b : Bool} : yb b = 0 ↔ b = false := by cases b <;> decide
theorem yb_g {b : Bool} : yb b = 0 ∨ yb b = 1 := by cases b <;> decide
theorem bm1 {b : Nat} (h : b ≤ 100) : nI b + (-1 : Int32) = -1 ↔ b = 0 := by
  have : ∀ b, b ≤ 100 → (nI b + (-1 : Int32) = -1 ↔ b = 0) := by decide +kernel
  exact this b h
theorem bm1' {b : Nat} (h : b ≤ 100) : (0 : Int32) ≤ nI b + (-1 : Int32) ↔ b ≠ 0 := by
  have : ∀ b, b ≤ 100 → ((0 : Int32) ≤ nI b + (-1 : Int32) ↔ b ≠ 0) := by decide +kernel
  exact this b h
section JU
variable {N : Nat} {A : AV} {D : AD} {S : AS}
theorem pl2 {k : Nat} (c : D.2 (5 * k) = 2) : plS A D k S = sPass A S ∧ plB D k S = true := by
  unfold plS plB
  rw [if_pos c]
  simp [c]
theorem pl0 {k : Nat} (c : D.2 (5 * k) = 0) : plS A D k S = (if tL S (D.2 (5 * k + 1)) = 0 ∧ 0 < tT S (5 * D.2 (5 * k + 1) + D.2 (5 * k + 3)) then sLight A S (D.2 (5 * k + 1)) (D.2 (5 * k + 3)) else S) ∧ ((tL S (D.2 (5 * k + 1)) = 0 ∧ 0 < tT S (5 * D.2 (5 * k + 1) + D.2 (5 * k + 3))) ↔ plB D k S = true) := by
  unfold plS plB
  rw [if_neg (by omega), if_pos c]
  simp [c]
theorem pl1 {k : Nat} (c : D.2 (5 * k) = 1) : plS A D k S = (if D.2 (5 * k + 4) ≤ tT S (5 * D.2 (5 * k + 1) + D.2 (5 * k + 3)) then sHand S (D.2 (5 * k + 1)) (D.2 (5 * k + 2)) (D.2 (5 * k + 3)) (D.2 (5 * k + 4)) else S) ∧ (D.2 (5 * k + 4) ≤ tT S (5 * D.2 (5 * k + 1) + D.2 (5 * k + 3)) ↔ plB D k S = true) := by
  unfold plS plB
  rw [if_neg (by omega), if_neg (by omega)]
  simp [c]
theorem WSpl {J k : Nat} (hW : WV A) (hD : WD A D) (hk : k < D.1) (p : WS A J S) : WS A (J + 1) (plS A D k S) := by
  have h5 := hW.1.1
  have h4 := hW.1.2.2.1
  obtain ⟨d1, d2, d3⟩ := hD.2 k hk
  rcases (show D.2 (5 * k) = 2 ∨ D.2 (5 * k) = 0 ∨ D.2 (5 * k) = 1 by omega) with c | c | c
  · rw [(pl2 c).1]; exact p.pass
  · rw [(pl0 c).1]
    have := d2 (by omega)
    split
    · exact (p.light hW this.1 this.2).up (Nat.le_succ J)
    · exact p.up (Nat.le_succ J)
  · rw [(pl1 c).1]
    have := d2 (by omega)
    have q := d3 c
    split
    · exact (p.hand this.1 q.1 this.2 h5 h4).up (Nat.le_succ J)
    · exact p.up (Nat.le_succ J)
theorem WSj (hW : WV A) (hD : WD A D) : ∀ k, k ≤ D.1 → WS A k (jS A D k)
  | 0, _ => WS.fresh hW
  | k + 1, hk => WSpl hW hD (by omega) (WSj hW hD k (by omega))
theorem jB_le : ∀ k, jB A D k ≤ k
  | 0 => Nat.le_refl _
  | k + 1 => by
    have := jB_le k
    unfold jB
    split
    · omega
    · split <;> omega
theorem jR_le (hW : WV A) : ∀ k, jR A D k ≤ 3 * k
  | 0 => Nat.le_refl _
  | k + 1 => by
    have := jR_le hW k
    have q := sgs_le A (jS A D k) (aC A 1)
    have z := hW.1.2.1
    unfold jR
    split <;> omega
theorem c_play (hN : 2000 ≤ N) {d s v J k : Nat} {h : PH} (dj : Dj s v) (hd : DY h d) (hC : CD h d D) (hD : WD A D) (hk : k < D.1) (p : VA h v A) (hS : ST h s) (cS : CS h s S) (hT : WS A J S) (hJ : J < 2 ^ 30) : ∃ h', f_X0_play N d (nI k) s v h = some (yb (plB D k S), h') ∧ Ex (inSV s v) h h' ∧ VA h' v A ∧ CS h' s (plS A D k S) := by
  have hW := p.2.2.1
  have h5 := hW.1.1
  have h4 := hW.1.2.2.1
  have h40 := hD.1
  obtain ⟨d1, d2, d3⟩ := hD.2 k hk
  have e5 : nI k * (5 : Int32) = nI (5 * k) := by rw [show (5 : Int32) = nI 5 from rfl, pk_mul, Nat.mul_comm]
  have ea : ∀ j : Nat, nI (5 * k) + nI j = nI (5 * k + j) := fun j => nI_add _ _
  have ea1 : nI (5 * k) + (1 : Int32) = nI (5 * k + 1) := ea 1
  have ea2 : nI (5 * k) + (2 : Int32) = nI (5 * k + 2) := ea 2
  have ea3 : nI (5 * k) + (3 : Int32) = nI (5 * k + 3) := ea 3
  have ea4 : nI (5 * k) + (4 : Int32) = nI (5 * k + 4) := ea 4
  have jx : ∀ j, j < 5 → inb (nI (5 * k + j)) 200 := fun j hj => nI_ix (by omega) (by decide)
  have j0 : inb (nI (5 * k)) 200 := nI_ix (by omega) (by decide)
  have kx : ∀ j, j < 5 → ix (nI (5 * k + j)) = 5 * k + j := fun j hj => ix_nI (by omega)
  have k0 : ix (nI (5 * k)) = 5 * k := ix_nI (by omega)
  unfold f_X0_play
  rw [if_neg (nI_pos (by omega)), ck_p hd.1, hC.1, if_pos (nI_lt hk (by omega)), e5, bd_e, hd.2.1, rq_s, ck_p hd.2.2.1, hd.2.2.2, ea1, ck_p (jx 1 (by decide)), kx 1 (by decide), hC.2 _ (by omega), bd_e, rq_s, ck_p hd.2.2.1, hd.2.2.2, ea3, ck_p (jx 3 (by decide)), kx 3 (by decide), hC.2 _ (by omega), bd_e, rq_s, ck_p hd.2.2.1, hd.2.2.2, ck_p j0, k0, hC.2 _ (by omega)]
  rcases (show D.2 (5 * k) = 2 ∨ D.2 (5 * k) = 0 ∨ D.2 (5 * k) = 1 by omega) with c | c | c
  · obtain ⟨h', r1, r2, r3, r4⟩ := c_pass hN dj p hS cS hT hJ
    refine ⟨h', ?_, r2, r3, by rw [(pl2 c).1]; exact r4⟩
    rw [c, if_pos (by rfl), ck_p hS.1, r1, cl_s, (pl2 (A := A) c).2]
    rfl
  · have q := d2 (by omega)
    obtain ⟨h', r1, r2, r3⟩ := c_light (N := N) dj p hS cS hT (i := D.2 (5 * k + 1)) (f := D.2 (5 * k + 3)) (by omega) q.2
    refine ⟨h', ?_, r2.mono (fun z hz => Or.inl hz), p.ex r2 (fun z z1 z2 z3 => by unfold inS at z3; unfold Dj at dj; omega), by rw [(pl0 c).1]; exact r3⟩
    rw [c, if_neg (by decide), rq_s, ck_p hd.2.2.1, hd.2.2.2, ck_p j0, hC.2 _ (by omega), c, if_pos (by rfl), ck_p hS.1, r1, cl_s, ck_p yes_g, yes_yb (pl0 (A := A) c).2]
  · have q := d2 (by omega)
    have t := d3 c
    obtain ⟨h', r1, r2, r3⟩ := c_hand (N := N) hS cS hT (i := D.2 (5 * k + 1)) (o := D.2 (5 * k + 2)) (f := D.2 (5 * k + 3)) (m := D.2 (5 * k + 4)) (by omega) (by omega) (by omega) t.2.2.2
    have iff : (D.2 (5 * k + 2) ≠ D.2 (5 * k + 1) ∧ 0 < D.2 (5 * k + 4) ∧ D.2 (5 * k + 4) ≤ tT S (5 * D.2 (5 * k + 1) + D.2 (5 * k + 3))) ↔ D.2 (5 * k + 4) ≤ tT S (5 * D.2 (5 * k + 1) + D.2 (5 * k + 3)) := ⟨fun z => z.2.2, fun z => ⟨t.2.1, t.2.2.1, z⟩⟩
    rw [ite_i iff] at r3
    refine ⟨h', ?_, r2.mono (fun z hz => Or.inl hz), p.ex r2 (fun z z1 z2 z3 => by unfold inS at z3; unfold Dj at dj; omega), by rw [(pl1 c).1]; exact r3⟩
    rw [c, if_neg (by decide), rq_s, ck_p hd.2.2.1, hd.2.2.2, ck_p j0, hC.2 _ (by omega), c, if_neg (by decide), rq_s, ck_p hd.2.2.1, hd.2.2.2, ea2, ck_p (jx 2 (by decide)), kx 2 (by decide), hC.2 _ (by omega), rq_s, ck_p hd.2.2.1, hd.2.2.2, ea4, ck_p (jx 4 (by decide)), kx 4 (by decide), hC.2 _ (by omega), ck_p hS.1, r1, cl_s, ck_p yes_g, yes_i iff, yes_yb (pl1 (A := A) c).2]
theorem m_goes {y J k : Nat} {h : PH} (p : MA N h y A) (rS : RS (hI h (y + 37)) 0 S) (rD : RD h y 0 D) (hD : WD A D) (hk : k < D.1) (hT : WS A J S) (n2 : D.2 (5 * k) ≠ 2) : ∃ h', f_X11_goes N y (nI k) h = some (yb (plB D k S), h') ∧ Ex (fun z => z = y + 37) h h' ∧ RS (hI h' (y + 37)) 0 (plS A D k S) := by
  have m := p.1
  have hW := p.2.2.1
  have h5 := hW.1.1
  have h4 := hW.1.2.2.1
  have h40 := hD.1
  obtain ⟨d1, d2, d3⟩ := hD.2 k hk
  obtain ⟨w0, w1, w2⟩ := rD.2 k hk
  rw [show 40 * 0 + k = k by omega] at w0 w1 w2
  have jk : inb (nI k) 240 := nI_ix (by omega) (by decide)
  have kk : ix (nI k) = k := ix_nI (by omega)
  have q := d2 (by omega)
  unfold f_X11_goes
  rw [ck_p m.1, mR_lineA m, rq_s, ck_p (mK_lineA m), mN_lineA m, ck_p jk, kk, bd_e, mR_lineWhat m, rq_s, ck_p (mK_lineWhat m), mN_lineWhat m, ck_p jk, w0]
  rcases (show D.2 (5 * k) = 0 ∨ D.2 (5 * k) = 1 by omega) with c | c
  · obtain ⟨a1, a2⟩ := w1 c
    rw [c, if_pos (by rfl), mR_lineB m, rq_s, ck_p (mK_lineB m), mN_lineB m, ck_p jk, a1, a2, m_canBurn m rS hT (by omega) (by omega), cl_s]
    by_cases cc : tL S (D.2 (5 * k + 1)) = 0 ∧ 0 < tT S (5 * D.2 (5 * k + 1) + D.2 (5 * k + 3))
    · obtain ⟨h', r1, r2, r3⟩ := m_lights (N := N) p rS hT (i := D.2 (5 * k + 1)) (f := D.2 (5 * k + 3)) (by omega) q.2 cc.2
      refine ⟨h', ?_, r2, by rw [(pl0 c).1, if_pos cc]; exact r3⟩
      rw [yesT cc, if_neg one0, ck_p m.1, mR_lineB m, rq_s, ck_p (mK_lineB m), mN_lineB m, ck_p jk, a2, r1, cl_s, (pl0 (A := A) c).2.mp cc]
      rfl
    · refine ⟨h, ?_, Ex.rf, by rw [(pl0 c).1, if_neg cc]; exact rS⟩
      have e : plB D k S = false := by
        have := (pl0 (A := A) (S := S) c).2
        cases hb : plB D k S
        · rfl
        · exact absurd (this.mpr hb) cc
      rw [yesF cc, if_pos rfl, e]
      rfl
  · obtain ⟨a1, a2, a3, a4⟩ := w2 c
    have t := d3 c
    have bt := hT.2.2.1 (5 * D.2 (5 * k + 1) + D.2 (5 * k + 3)) (by omega)
    have bt2 := hT.2.2.1 (5 * D.2 (5 * k + 2) + D.2 (5 * k + 3)) (by omega)
    have e := rS.2.2.2.1 (5 * D.2 (5 * k + 1) + D.2 (5 * k + 3)) (by omega)
    rw [Nat.zero_add] at e
    rw [c, if_neg (by decide), mR_s m, rq_s, mR_lineC m, rq_s, ck_p (mK_lineC m), mN_lineC m, ck_p jk, ck_p (mK_s m), mN_s m, a1, a3, m_ix, ck_p (nI_ix (by omega) (by decide)), mR_lineN m, rq_s, ck_p (mK_lineN m), mN_lineN m, ck_p jk, a4, ix_nI (by omega), e, ite_i (nI_leI (by omega) (by omega))]
    by_cases cc : D.2 (5 * k + 4) ≤ tT S (5 * D.2 (5 * k + 1) + D.2 (5 * k + 3))
    · obtain ⟨h', r1, r2, r3⟩ := m_lends (N := N) m rS (i := D.2 (5 * k + 1)) (q := D.2 (5 * k + 2)) (f := D.2 (5 * k + 3)) (n := D.2 (5 * k + 4)) (by omega) (by omega) (by omega) t.2.1 cc (by omega)
      refine ⟨h', ?_, r2, by rw [(pl1 c).1, if_pos cc]; exact r3⟩
      rw [if_pos cc, mR_lineB m, rq_s, ck_p (mK_lineB m), mN_lineB m, ck_p jk, rq_s, ck_p (mK_lineC m), mN_lineC m, ck_p jk, rq_s, ck_p (mK_lineN m), mN_lineN m, ck_p jk, a2, a3, a4, r1, cl_s, (pl1 (A := A) c).2.mp cc]
      rfl
    · refine ⟨h, ?_, Ex.rf, by rw [(pl1 c).1, if_neg cc]; exact rS⟩
      have e2 : plB D k S = false := by
        have := (pl1 (A := A) (S := S) c).2
        cases hb : plB D k S
        · rfl
        · exact absurd (this.mpr hb) cc
      rw [if_neg cc, e2]
      rfl
end JU
