/-! day: a line, as the reference reads it. -/
/-- what the reference's reading of a day's line changes: its own row, and one slot of the rows of P -/
def Dq (y : Nat) (P : Nat → Prop) (u : Nat) (h h' : PH) : Prop := Sm h h' ∧ hz h' = hz h ∧ (∀ z, z ≠ y → hJ h' z = hJ h z) ∧ (∀ z k, z ≠ y → (¬ P z ∨ k ≠ u) → hI h' z k = hI h z k) ∧ ∀ k, k = 1 ∨ k = 54 → hI h' y k = hI h y k
section DYM
variable {N y u p : Nat} {X : TX} {cnt : Nat → Nat} {nm : Nat → Nat → Nat} {s : ZS} {h h' : PH} {D : AD} {P Q : Nat → Prop}
theorem Dq.rk (g : Rk y h h') : Dq y P u h h' := ⟨g.1.1, g.1.2.1, fun z hz => (g.1.2.2 z hz).2, fun z k hz _ => by rw [(g.1.2.2 z hz).1], fun k hk => g.2.1 k (by omega)⟩
theorem Dq.trans {h1 : PH} (a : Dq y P u h h1) (b : Dq y P u h1 h') : Dq y P u h h' := ⟨a.1.trans b.1, b.2.1.trans a.2.1, fun z hz => (b.2.2.1 z hz).trans (a.2.2.1 z hz), fun z k hz hk => (b.2.2.2.1 z k hz hk).trans (a.2.2.2.1 z k hz hk), fun k hk => (b.2.2.2.2 k hk).trans (a.2.2.2.2 k hk)⟩
theorem Dq.mono (hPQ : ∀ z, P z → Q z) (a : Dq y P u h h') : Dq y Q u h h' := ⟨a.1, a.2.1, a.2.2.1, fun z k hz hk => a.2.2.2.1 z k hz (hk.imp (fun w v => w (hPQ z v)) id), a.2.2.2.2⟩
theorem Dq.I {b : Nat} {v : Int32} (hb : P b) (hy : b ≠ y) : Dq y P u h (sI h b u v) := ⟨Sm.sI, rfl, fun _ _ => rfl, fun z k hz hk => by
  by_cases e : z = b
  · rw [e] at hk ⊢
    rw [hI_sI_eq, va_ne (hk.resolve_left (fun w => w hb))]
  · rw [hI_sI_ne e], fun k _ => by rw [hI_sI_ne (fun w => hy w.symm)]⟩
theorem RZ.w {b k : Nat} {v : Int32} (hb : y + 27 ≤ b ∧ b ≤ y + 32) (z : RZ X y h p) : RZ X y (sI h b k v) p := by
  obtain ⟨⟨a1, a2, a3, a4⟩, b1, b2, b3, b4, b5, b6⟩ := z
  have ey : hI (sI h b k v) y = hI h y := hI_sI_ne (by omega)
  exact ⟨⟨a1.sm Sm.sI, a2, by rw [ey]; exact a3, fun j hj => by rw [hI_sI_ne (by omega)]; exact a4 j hj⟩, b1, by rw [ey]; exact b2, by rw [ey]; exact b3, by rw [ey]; exact b4, b5, fun w => by rw [ey]; exact b6 w⟩
theorem NmM.w {b k : Nat} {v : Int32} (hb : y + 27 ≤ b ∧ b ≤ y + 32) (q : NmM h y 0 cnt nm) : NmM (sI h b k v) y 0 cnt nm := ⟨q.1.sm Sm.sI, fun j hj => ⟨(q.2 j hj).1, by rw [hI_sI_ne (by omega)]; exact (q.2 j hj).2.1, (q.2 j hj).2.2⟩⟩
theorem dyT_z {j : Nat} (e : s.1 ≠ 0) : dyT X cnt nm j s = s := by
  unfold dyT
  rw [xTld_z e, stp_z e]
theorem dyT_f {j : Nat} (e : (xTld X cnt nm j s).1 ≠ 0) : dyT X cnt nm j s = xTld X cnt nm j s := by
  unfold dyT
  rw [stp_z e]
theorem dyT_y {j : Nat} (e : (xTld X cnt nm j (0, p)).1 = 0) : dyT X cnt nm j (0, p) = (0, xnx X p) := by
  unfold dyT
  rw [(xTld_s e).2.2, stp_0 rfl]
theorem dyI_z {a : Nat} (e : s.1 ≠ 0) : dyI X cnt nm a s = s := by
  unfold dyI
  rw [xTld_z e]
  by_cases c : dyV X cnt nm 2 s = a
  · rw [if_pos c, flt_z e, stp_z e]
  · rw [if_neg c, stp_z e]
theorem dyI_f {a : Nat} (e : (xTld X cnt nm 2 s).1 ≠ 0) : dyI X cnt nm a s = xTld X cnt nm 2 s := by
  unfold dyI
  by_cases c : dyV X cnt nm 2 s = a
  · rw [if_pos c, flt_z e, stp_z e]
  · rw [if_neg c, stp_z e]
theorem m_rb (hB : 2000 ≤ N) (hu : u < 240) (z : RZ X y h p) (q : NmM h y 0 cnt nm) : ∃ h', f_X11_readsBurn N y (nI u) h = some (yb (decide ((dyT X cnt nm 0 (dyT X cnt nm 2 (0, p))).1 = 0)), h') ∧ Dq y (fun z => y + 29 ≤ z ∧ z ≤ y + 32) u h h' ∧ MRs X y h' (dyT X cnt nm 0 (dyT X cnt nm 2 (0, p))) ∧ ((dyT X cnt nm 0 (dyT X cnt nm 2 (0, p))).1 = 0 → hI h' (y + 29) u = nI (dyV X cnt nm 2 (0, p)) ∧ hI h' (y + 30) u = nI (dyV X cnt nm 0 (dyT X cnt nm 2 (0, p)))) := by
  unfold f_X11_readsBurn
  obtain ⟨h1, a1, a2, a3, a4⟩ := m_needsNamed (N := N) (r := 0) (k := 2) hB (by decide) (by decide) z q
  have a1 : f_X11_needsNamed N y 0 2 h = _ := a1
  rw [ck_p z.1.1.1, a1, cl_s, ite_i yb0]
  by_cases c : (xTld X cnt nm 2 (0, p)).1 = 0
  rotate_left
  · rw [if_pos (decide_eq_false c), dyT_f c, dyT_z c, decide_eq_false c]
    exact ⟨h1, rfl, Dq.rk a2, a3, fun w => absurd w c⟩
  have es := (xTld_s c).2.2
  have z1 : RZ X y h1 p := by
    have := a3.1 c
    rw [es] at this
    exact this
  have m1 := z1.1.1
  have a4 : hI h1 y 37 = nI (dyV X cnt nm 2 (0, p)) := a4 c
  obtain ⟨g1, d1⟩ : ∃ g1, g1 = sI h1 (y + 29) u (nI (dyV X cnt nm 2 (0, p))) := ⟨_, rfl⟩
  have x1 : Dq y (fun z => y + 29 ≤ z ∧ z ≤ y + 32) u h1 g1 := by rw [d1]; exact Dq.I ⟨by omega, by omega⟩ (by omega)
  have z2 : RZ X y g1 p := by rw [d1]; exact z1.w (by omega)
  have q1 : NmM g1 y 0 cnt nm := by rw [d1]; exact (q.rx a2.1).w (by omega)
  obtain ⟨h2, b1, b2, b3, b4⟩ := m_next (N := N) hB z2
  obtain ⟨h3, c1, c2, c3, c4⟩ := m_needsNamed (N := N) (r := 0) (k := 0) hB (by decide) (by decide) b4 (q1.rx b2.1)
  have c1 : f_X11_needsNamed N y 0 0 h2 = _ := c1
  rw [if_neg (show ¬ decide ((xTld X cnt nm 2 (0, p)).1 = 0) = false by rw [decide_eq_true c]; decide), ck_p m1.1, mR_lineA m1, rq_s, ck_p (mK_lineA m1), mN_lineA m1, ck_p (nI_ix (by omega) (by decide)), ix_nI (show u < 2 ^ 31 by omega), a4, bd_e, ← d1, ck_p z2.1.1.1, b1, cl_s, ck_p b4.1.1.1, c1, cl_s, ite_i yb0, dyT_y c]
  have fr := ((Dq.rk (P := fun z => y + 29 ≤ z ∧ z ≤ y + 32) (u := u) a2).trans x1).trans ((Dq.rk b2).trans (Dq.rk c2))
  by_cases d : (xTld X cnt nm 0 (0, xnx X p)).1 = 0
  rotate_left
  · rw [if_pos (decide_eq_false d), dyT_f d, decide_eq_false d]
    exact ⟨h3, rfl, fr, c3, fun w => absurd w d⟩
  have z3 : RZ X y h3 (xnx X p) := by
    have := c3.1 d
    rw [(xTld_s d).2.2] at this
    exact this
  have m3 := z3.1.1
  have c4 : hI h3 y 37 = nI (dyV X cnt nm 0 (0, xnx X p)) := c4 d
  obtain ⟨g2, d2⟩ : ∃ g2, g2 = sI h3 (y + 30) u (nI (dyV X cnt nm 0 (0, xnx X p))) := ⟨_, rfl⟩
  have x2 : Dq y (fun z => y + 29 ≤ z ∧ z ≤ y + 32) u h3 g2 := by rw [d2]; exact Dq.I ⟨by omega, by omega⟩ (by omega)
  have z4 : RZ X y g2 (xnx X p) := by rw [d2]; exact z3.w (by omega)
  obtain ⟨h4, e1, e2, e3, e4⟩ := m_next (N := N) hB z4
  rw [if_neg (show ¬ decide ((xTld X cnt nm 0 (0, xnx X p)).1 = 0) = false by rw [decide_eq_true d]; decide), ck_p m3.1, mR_lineB m3, rq_s, ck_p (mK_lineB m3), mN_lineB m3, ck_p (nI_ix (by omega) (by decide)), c4, bd_e, ← d2, ck_p z4.1.1.1, e1, cl_s, dyT_y d]
  refine ⟨h4, rfl, (fr.trans x2).trans (Dq.rk e2), MRs.z e4, fun _ => ⟨?_, ?_⟩⟩
  · rw [(e2.1.2.2 (y + 29) (by omega)).1, d2, hI_sI_ne (by omega), (c2.1.2.2 (y + 29) (by omega)).1, (b2.1.2.2 (y + 29) (by omega)).1, d1, hI_sI_eq, va_eq]
  · rw [(e2.1.2.2 (y + 30) (by omega)).1, d2, hI_sI_eq, va_eq]
theorem m_rl (hB : 2000 ≤ N) (hu : u < 240) (z : RZ X y h p) (q : NmM h y 0 cnt nm) : ∃ h', f_X11_readsLend N y (nI u) h = some (yb (decide ((xNu X 1 99 (dyT X cnt nm 0 (dyA X cnt nm (0, p)))).1 = 0)), h') ∧ Dq y (fun z => y + 29 ≤ z ∧ z ≤ y + 32) u h h' ∧ MRs X y h' (xNu X 1 99 (dyT X cnt nm 0 (dyA X cnt nm (0, p)))) ∧ ((xNu X 1 99 (dyT X cnt nm 0 (dyA X cnt nm (0, p)))).1 = 0 → hI h' (y + 29) u = nI (dyV X cnt nm 2 (0, p)) ∧ hI h' (y + 30) u = nI (dyV X cnt nm 2 (dyT X cnt nm 2 (0, p))) ∧ hI h' (y + 31) u = nI (dyV X cnt nm 0 (dyA X cnt nm (0, p))) ∧ hI h' (y + 32) u = nI (xnv X (dyT X cnt nm 0 (dyA X cnt nm (0, p))).2)) := by
  unfold f_X11_readsLend
  obtain ⟨h1, a1, a2, a3, a4⟩ := m_needsNamed (N := N) (r := 0) (k := 2) hB (by decide) (by decide) z q
  have a1 : f_X11_needsNamed N y 0 2 h = _ := a1
  rw [ck_p z.1.1.1, a1, cl_s, ite_i yb0]
  by_cases c : (xTld X cnt nm 2 (0, p)).1 = 0
  rotate_left
  · have e : dyA X cnt nm (0, p) = xTld X cnt nm 2 (0, p) := by
      unfold dyA
      rw [dyT_f c, dyI_z c]
    rw [if_pos (decide_eq_false c), e, dyT_z c, xNu_z c, decide_eq_false c]
    exact ⟨h1, rfl, Dq.rk a2, a3, fun w => absurd w c⟩
  have es := (xTld_s c).2.2
  have lt1 := (xTld_s c).2.1
  have z1 : RZ X y h1 p := by
    have := a3.1 c
    rw [es] at this
    exact this
  have m1 := z1.1.1
  have a4 : hI h1 y 37 = nI (dyV X cnt nm 2 (0, p)) := a4 c
  obtain ⟨g1, d1⟩ : ∃ g1, g1 = sI h1 (y + 29) u (nI (dyV X cnt nm 2 (0, p))) := ⟨_, rfl⟩
  have x1 : Dq y (fun z => y + 29 ≤ z ∧ z ≤ y + 32) u h1 g1 := by rw [d1]; exact Dq.I ⟨by omega, by omega⟩ (by omega)
  have z2 : RZ X y g1 p := by rw [d1]; exact z1.w (by omega)
  have q1 : NmM g1 y 0 cnt nm := by rw [d1]; exact (q.rx a2.1).w (by omega)
  obtain ⟨h2, b1, b2, b3, b4⟩ := m_next (N := N) hB z2
  have q2 := q1.rx b2.1
  obtain ⟨h3, c1, c2, c3, c4⟩ := m_needsNamed (N := N) (r := 0) (k := 2) hB (by decide) (by decide) b4 q2
  have c1 : f_X11_needsNamed N y 0 2 h2 = _ := c1
  rw [if_neg (show ¬ decide ((xTld X cnt nm 2 (0, p)).1 = 0) = false by rw [decide_eq_true c]; decide), ck_p m1.1, mR_lineA m1, rq_s, ck_p (mK_lineA m1), mN_lineA m1, ck_p (nI_ix (by omega) (by decide)), ix_nI (show u < 2 ^ 31 by omega), a4, bd_e, ← d1, ck_p z2.1.1.1, b1, cl_s, ck_p b4.1.1.1, c1, cl_s, ite_i yb0]
  have eA : dyA X cnt nm (0, p) = dyI X cnt nm (dyV X cnt nm 2 (0, p)) (0, xnx X p) := by
    unfold dyA
    rw [dyT_y c]
  rw [eA, dyT_y c]
  have fr := ((Dq.rk (P := fun z => y + 29 ≤ z ∧ z ≤ y + 32) (u := u) a2).trans x1).trans ((Dq.rk b2).trans (Dq.rk c2))
  have r29 : hI h3 (y + 29) u = nI (dyV X cnt nm 2 (0, p)) := by
    rw [(c2.1.2.2 (y + 29) (by omega)).1, (b2.1.2.2 (y + 29) (by omega)).1, d1, hI_sI_eq, va_eq]
  obtain ⟨va, vd⟩ : ∃ va, va = dyV X cnt nm 2 (0, p) := ⟨_, rfl⟩
  have val : va < 1000 := by
    have l2 := (q.2 2 (by decide)).1
    have l3 := mk5_le 2
    have : nfi cnt nm 2 (xwv X (0, p).2) < cnt 2 := lt1
    rw [vd]
    unfold dyV
    omega
  rw [← vd] at r29 ⊢
  by_cases d : (xTld X cnt nm 2 (0, xnx X p)).1 = 0
  rotate_left
  · rw [if_pos (decide_eq_false d), dyI_f d, dyT_z d, xNu_z d, decide_eq_false d]
    exact ⟨h3, rfl, fr, c3, fun w => absurd w d⟩
  have z3 : RZ X y h3 (xnx X p) := by
    have := c3.1 d
    rw [(xTld_s d).2.2] at this
    exact this
  have m3 := z3.1.1
  have c4 : hI h3 y 37 = nI (dyV X cnt nm 2 (0, xnx X p)) := c4 d
  have vbl : dyV X cnt nm 2 (0, xnx X p) < 1000 := by
    have l2 := (q.2 2 (by decide)).1
    have l3 := mk5_le 2
    have : nfi cnt nm 2 (xwv X (0, xnx X p).2) < cnt 2 := (xTld_s d).2.1
    unfold dyV
    omega
  rw [if_neg (show ¬ decide ((xTld X cnt nm 2 (0, xnx X p)).1 = 0) = false by rw [decide_eq_true d]; decide), ck_p m3.1, mR_lineA m3, rq_s, ck_p (mK_lineA m3), mN_lineA m3, ck_p (nI_ix (by omega) (by decide)), c4, r29, ite_i (nI_eq (show dyV X cnt nm 2 (0, xnx X p) < 2 ^ 31 by omega) (show va < 2 ^ 31 by omega))]
  by_cases f : dyV X cnt nm 2 (0, xnx X p) = va
  · obtain ⟨h4, e1, e2, e3⟩ := m_fails (N := N) (k := 3) z3
    have e1 : f_X11_fails N y 3 h3 = _ := e1
    have eI : dyI X cnt nm va (0, xnx X p) = (3 + 16 * xbg X (xnx X p), xnx X p) := by
      unfold dyI
      rw [if_pos f, (xTld_s d).2.2, flt_0 rfl, stp_z (show (3 + 16 * xbg X (xnx X p), xnx X p).1 ≠ 0 by show 3 + 16 * xbg X (xnx X p) ≠ 0; omega)]
    have ne : (3 + 16 * xbg X (xnx X p), xnx X p).1 ≠ 0 := by show 3 + 16 * xbg X (xnx X p) ≠ 0; omega
    rw [if_pos f, e1, cl_s, ck_p (Or.inl rfl), eI, dyT_z ne, xNu_z ne, decide_eq_false ne]
    exact ⟨h4, rfl, fr.trans (Dq.rk e2), MRs.f (by decide) e3, fun w => absurd w ne⟩
  have eI : dyI X cnt nm va (0, xnx X p) = (0, xnx X (xnx X p)) := by
    unfold dyI
    rw [if_neg f, (xTld_s d).2.2, stp_0 rfl]
  obtain ⟨g2, d2⟩ : ∃ g2, g2 = sI h3 (y + 30) u (nI (dyV X cnt nm 2 (0, xnx X p))) := ⟨_, rfl⟩
  have x2 : Dq y (fun z => y + 29 ≤ z ∧ z ≤ y + 32) u h3 g2 := by rw [d2]; exact Dq.I ⟨by omega, by omega⟩ (by omega)
  have z4 : RZ X y g2 (xnx X p) := by rw [d2]; exact z3.w (by omega)
  have q4 : NmM g2 y 0 cnt nm := by rw [d2]; exact (q2.rx c2.1).w (by omega)
  obtain ⟨h4, e1, e2, e3, e4⟩ := m_next (N := N) hB z4
  have q5 := q4.rx e2.1
  obtain ⟨h5, f1, f2, f3, f4⟩ := m_needsNamed (N := N) (r := 0) (k := 0) hB (by decide) (by decide) e4 q5
  have f1 : f_X11_needsNamed N y 0 0 h4 = _ := f1
  rw [if_neg f, mR_lineB m3, rq_s, ck_p (mK_lineB m3), mN_lineB m3, ck_p (nI_ix (by omega) (by decide)), bd_e, ← d2, ck_p z4.1.1.1, e1, cl_s, ck_p e4.1.1.1, f1, cl_s, ite_i yb0, eI]
  have fr2 := (fr.trans x2).trans ((Dq.rk e2).trans (Dq.rk f2))
  have s29 : hI h5 (y + 29) u = nI va := by
    rw [(f2.1.2.2 (y + 29) (by omega)).1, (e2.1.2.2 (y + 29) (by omega)).1, d2, hI_sI_ne (by omega)]; exact r29
  have s30 : hI h5 (y + 30) u = nI (dyV X cnt nm 2 (0, xnx X p)) := by
    rw [(f2.1.2.2 (y + 30) (by omega)).1, (e2.1.2.2 (y + 30) (by omega)).1, d2, hI_sI_eq, va_eq]
  generalize xnx X (xnx X p) = p2 at *
  by_cases k : (xTld X cnt nm 0 (0, p2)).1 = 0
  rotate_left
  · rw [if_pos (decide_eq_false k), dyT_f k, xNu_z k, decide_eq_false k]
    exact ⟨h5, rfl, fr2, f3, fun w => absurd w k⟩
  have z5 : RZ X y h5 p2 := by
    have := f3.1 k
    rw [(xTld_s k).2.2] at this
    exact this
  have m5 := z5.1.1
  have f4 : hI h5 y 37 = nI (dyV X cnt nm 0 (0, p2)) := f4 k
  obtain ⟨g3, d3⟩ : ∃ g3, g3 = sI h5 (y + 31) u (nI (dyV X cnt nm 0 (0, p2))) := ⟨_, rfl⟩
  have x3 : Dq y (fun z => y + 29 ≤ z ∧ z ≤ y + 32) u h5 g3 := by rw [d3]; exact Dq.I ⟨by omega, by omega⟩ (by omega)
  have z6 : RZ X y g3 p2 := by rw [d3]; exact z5.w (by omega)
  obtain ⟨h6, i1, i2, i3, i4⟩ := m_next (N := N) hB z6
  obtain ⟨h7, j1, j2, j3, j4⟩ := m_needsNumber (N := N) (a := 1) (b := 99) (l1 := 1) (l2 := 99) hB (by decide) (by decide) rfl rfl i4
  rw [if_neg (show ¬ decide ((xTld X cnt nm 0 (0, p2)).1 = 0) = false by rw [decide_eq_true k]; decide), ck_p m5.1, mR_lineC m5, rq_s, ck_p (mK_lineC m5), mN_lineC m5, ck_p (nI_ix (by omega) (by decide)), f4, bd_e, ← d3, ck_p z6.1.1.1, i1, cl_s, ck_p i4.1.1.1, j1, cl_s, ite_i yb0, dyT_y k]
  have fr3 := (fr2.trans x3).trans ((Dq.rk i2).trans (Dq.rk j2))
  by_cases l : (xNu X 1 99 (0, xnx X p2)).1 = 0
  rotate_left
  · rw [if_pos (decide_eq_false l), decide_eq_false l]
    exact ⟨h7, rfl, fr3, j3, fun w => absurd w l⟩
  have z7 := j3.1 l
  have m7 := z7.1.1
  have j4 : hI h7 y 37 = nI (xnv X (xnx X p2)) := j4 l
  have x4 : Dq y (fun z => y + 29 ≤ z ∧ z ≤ y + 32) u h7 (sI h7 (y + 32) u (nI (xnv X (xnx X p2)))) := Dq.I ⟨by omega, by omega⟩ (by omega)
  rw [if_neg (show ¬ decide ((xNu X 1 99 (0, xnx X p2)).1 = 0) = false by rw [decide_eq_true l]; decide), ck_p m7.1, mR_lineN m7, rq_s, ck_p (mK_lineN m7), mN_lineN m7, ck_p (nI_ix (by omega) (by decide)), j4, bd_e, decide_eq_true l]
  refine ⟨_, rfl, fr3.trans x4, ⟨fun w => (j3.1 w).w (by omega), fun w => absurd l w⟩, fun _ => ⟨?_, ?_, ?_, ?_⟩⟩
  · rw [hI_sI_ne (by omega), (j2.1.2.2 (y + 29) (by omega)).1, (i2.1.2.2 (y + 29) (by omega)).1, d3, hI_sI_ne (by omega)]; exact s29
  · rw [hI_sI_ne (by omega), (j2.1.2.2 (y + 30) (by omega)).1, (i2.1.2.2 (y + 30) (by omega)).1, d3, hI_sI_ne (by omega)]; exact s30
  · rw [hI_sI_ne (by omega), (j2.1.2.2 (y + 31) (by omega)).1, (i2.1.2.2 (y + 31) (by omega)).1, d3, hI_sI_eq, va_eq]
  · rw [hI_sI_eq, va_eq]
end DYM
