/-! day: a line, as the class reads it. -/
def dyK (X : TX) (s : ZS) : Nat := if sWd X s 16 = true then 0 else if sWd X s 17 = true then 1 else if sWd X s 18 = true then 2 else 3
def dy1 (X : TX) (k n : Nat) (s : ZS) : ZS := stp X (if k = 3 then flt X 1 s else if n < 40 then s else flt X 5 s)
def dyV (X : TX) (cnt : Nat → Nat) (nm : Nat → Nat → Nat) (j : Nat) (s : ZS) : Nat := nfi cnt nm j (xwv X s.2)
def dyT (X : TX) (cnt : Nat → Nat) (nm : Nat → Nat → Nat) (j : Nat) (s : ZS) : ZS := stp X (xTld X cnt nm j s)
def dyI (X : TX) (cnt : Nat → Nat) (nm : Nat → Nat → Nat) (a : Nat) (s : ZS) : ZS := stp X (if dyV X cnt nm 2 s = a then flt X 3 (xTld X cnt nm 2 s) else xTld X cnt nm 2 s)
/-- behind the two houses of a loan -/
def dyA (X : TX) (cnt : Nat → Nat) (nm : Nat → Nat → Nat) (t : ZS) : ZS := dyI X cnt nm (dyV X cnt nm 2 t) (dyT X cnt nm 2 t)
def dyP (D : AD) (c0 c1 c2 c3 c4 : Nat) : AD := (D.1 + 1, va_up (va_up (va_up (va_up (va_up D.2 (5 * D.1) c0) (5 * D.1 + 1) c1) (5 * D.1 + 2) c2) (5 * D.1 + 3) c3) (5 * D.1 + 4) c4)
def dyS (X : TX) (cnt : Nat → Nat) (nm : Nat → Nat → Nat) (n : Nat) (s : ZS) : ZS := if dyK X s = 2 then xSn X 59 (dy1 X (dyK X s) n s) else if dyK X s = 1 then xSn X 59 (xNu X 1 99 (dyT X cnt nm 0 (dyA X cnt nm (dy1 X (dyK X s) n s)))) else xSn X 59 (dyT X cnt nm 0 (dyT X cnt nm 2 (dy1 X (dyK X s) n s)))
def dyD (X : TX) (cnt : Nat → Nat) (nm : Nat → Nat → Nat) (D : AD) (s : ZS) : AD := if dyK X s = 2 then dyP D 2 0 0 0 0 else if dyK X s = 1 then dyP D 1 (dyV X cnt nm 2 (dy1 X (dyK X s) D.1 s)) (dyV X cnt nm 2 (dyT X cnt nm 2 (dy1 X (dyK X s) D.1 s))) (dyV X cnt nm 0 (dyA X cnt nm (dy1 X (dyK X s) D.1 s))) (xnv X (dyT X cnt nm 0 (dyA X cnt nm (dy1 X (dyK X s) D.1 s))).2) else dyP D 0 (dyV X cnt nm 2 (dy1 X (dyK X s) D.1 s)) 0 (dyV X cnt nm 0 (dyT X cnt nm 2 (dy1 X (dyK X s) D.1 s))) 0
section DYC
variable {N x v a : Nat} {X : TX} {cnt : Nat → Nat} {nm : Nat → Nat → Nat} {s : ZS} {h h' : PH} {D : AD}
theorem xSn_0 {c : Nat} (e : (xSn X c s).1 = 0) : s.1 = 0 := (sSg_i.mp (xSn_s e)).1
theorem xNu_0 {p q : Nat} (e : (xNu X p q s).1 = 0) : s.1 = 0 := (sNu_i.mp (xNu_s e).1).1
theorem xTld_0 {j : Nat} (e : (xTld X cnt nm j s).1 = 0) : s.1 = 0 := (sNm_i.mp (xTld_s e).1).1
theorem dyT_0 {j : Nat} (e : (dyT X cnt nm j s).1 = 0) : s.1 = 0 ∧ dyV X cnt nm j s < cnt j := by
  have e := stp_n.mp e
  exact ⟨xTld_0 e, (xTld_s e).2.1⟩
theorem dyI_0 (e : (dyI X cnt nm a s).1 = 0) : s.1 = 0 ∧ dyV X cnt nm 2 s < cnt 2 ∧ dyV X cnt nm 2 s ≠ a := by
  have e := stp_n.mp e
  by_cases c : dyV X cnt nm 2 s = a
  · rw [if_pos c] at e
    exact absurd e (flt_n (by decide))
  · rw [if_neg c] at e
    exact ⟨xTld_0 e, (xTld_s e).2.1, c⟩
theorem dy1_0 {k n : Nat} (e : (dy1 X k n s).1 = 0) : s.1 = 0 ∧ k ≠ 3 ∧ n < 40 := by
  have e := stp_n.mp e
  by_cases c : k = 3
  · rw [if_pos c] at e
    exact absurd e (flt_n (by decide))
  · rw [if_neg c] at e
    by_cases d : n < 40
    · rw [if_pos d] at e
      exact ⟨e, c, d⟩
    · rw [if_neg d] at e
      exact absurd e (flt_n (by decide))
theorem CZ.de (g : Ex (fun z => z = x + 21 ∨ z = x + 22) h h') (q : CZ X x h s) : CZ X x h' s := by
  obtain ⟨⟨p1, p2, p3, p4, p5, p6⟩, q2, q3, q4, q5⟩ := q
  have e := g.2.2.2 (x + 1) (by omega)
  have e2 := g.2.2.2 (x + 2) (by omega)
  refine ⟨⟨p1.sm g.1, by rw [g.2.1]; exact p2, by rw [g.1.2.2.2]; exact p3, p4, by rw [e]; exact p5, fun k hk => by rw [e2]; exact p6 k hk⟩, q2, q3, by rw [e]; exact q4, fun z => ?_⟩
  obtain ⟨r1, r2, r3, r4, r5⟩ := q5 z
  refine ⟨by rw [e]; exact r1, by rw [e]; exact r2, by rw [e]; exact r3, fun w => ?_, fun w => by rw [e]; exact r5 w⟩
  rw [g.2.2.1, g.1.2.2.1]
  refine ⟨(r4 w).1, ?_⟩
  unfold wrf
  rw [g.1.2.2.2]
  exact (r4 w).2
/-- what the class's reading of a day stands on -/
def DX (x v : Nat) (cnt : Nat → Nat) (nm : Nat → Nat → Nat) (D : AD) (h : PH) : Prop := NmC h v cnt nm ∧ DY h (x + 21) ∧ CD h (x + 21) D ∧ v + 18 ≤ hz h ∧ x + 43 ≤ v
theorem DX.kx (g : Kx x (fun z => z ≠ x + 1) h h') (q : DX x v cnt nm D h) : DX x v cnt nm D h' := by
  obtain ⟨q1, q2, q3, q4, q5⟩ := q
  exact ⟨q1.kx g (fun z z1 z2 => by omega) q4 q5, q2.shp g.1 (by omega) (by omega), q3.kx g (fun z z1 z2 => by omega), Nat.le_trans q4 g.1.2.1, q5⟩
theorem z_146 (hB : 2000 ≤ N) {l3 l4 l5 l6 s0 : Int32} {c0 c1 c2 c3 c4 : Nat} (z : CZ X x h s) (d : DX x v cnt nm D h) (hd : s.1 = 0 → D.1 < 40) (e : (xSn X 59 s).1 = 0 → l3 = nI c0 ∧ l4 = nI c1 ∧ l5 = nI c2 ∧ l6 = nI c3 ∧ s0 = nI c4) : ∃ h', f_X0_readLine_146 N s0 (x + 21) (x + 1) l3 l4 l5 l6 h = some ((), h') ∧ Kx x (fun z => z ≠ x + 1 ∧ z ≠ x + 21 ∧ z ≠ x + 22) h h' ∧ CZ X x h' (xSn X 59 s) ∧ ((xSn X 59 s).1 = 0 → CD h' (x + 21) (dyP D c0 c1 c2 c3 c4)) := by
  obtain ⟨g, a1, a2, a3⟩ := z_expectSign (N := N) hB (c := 59) (by decide) z
  have a1 : f_X5_expectSign N (x + 1) 59 h = _ := a1
  obtain ⟨-, Y, C, -, -⟩ := d.kx a2
  unfold f_X0_readLine_146
  rw [ck_p z.1.1.1, a1, cl_s, ck_p a3.1.1.1, z_isSound a3, cl_s, ite_i yb0]
  by_cases c : (xSn X 59 s).1 = 0
  rotate_left
  · rw [if_pos (decide_eq_false c)]
    exact ⟨g, rfl, a2.mono (fun z hz => hz.1), a3, fun w => absurd w c⟩
  have n40 := hd (xSn_0 c)
  obtain ⟨e0, e1, e2, e3, e4⟩ := e c
  obtain ⟨u, ud⟩ : ∃ u, u = 5 * D.1 := ⟨_, rfl⟩
  have eu : nI D.1 * (5 : Int32) = nI u := by
    rw [ud, Nat.mul_comm]
    exact pk_mul D.1 5
  have u1 : nI u + (1 : Int32) = nI (u + 1) := nI_add u 1
  have u2 : nI u + (2 : Int32) = nI (u + 2) := nI_add u 2
  have u3 : nI u + (3 : Int32) = nI (u + 3) := nI_add u 3
  have u4 : nI u + (4 : Int32) = nI (u + 4) := nI_add u 4
  obtain ⟨g1, d1⟩ : ∃ g1, g1 = sI g (x + 21 + 1) u l3 := ⟨_, rfl⟩
  have Y1 : DY g1 (x + 21) := by rw [d1]; exact Y.sm Sm.sI
  obtain ⟨g2, d2⟩ : ∃ g2, g2 = sI g1 (x + 21 + 1) (u + 1) l4 := ⟨_, rfl⟩
  have Y2 : DY g2 (x + 21) := by rw [d2]; exact Y1.sm Sm.sI
  obtain ⟨g3, d3⟩ : ∃ g3, g3 = sI g2 (x + 21 + 1) (u + 2) l5 := ⟨_, rfl⟩
  have Y3 : DY g3 (x + 21) := by rw [d3]; exact Y2.sm Sm.sI
  obtain ⟨g4, d4⟩ : ∃ g4, g4 = sI g3 (x + 21 + 1) (u + 3) l6 := ⟨_, rfl⟩
  have Y4 : DY g4 (x + 21) := by rw [d4]; exact Y3.sm Sm.sI
  obtain ⟨g5, d5⟩ : ∃ g5, g5 = sI g4 (x + 21 + 1) (u + 4) s0 := ⟨_, rfl⟩
  have Y5 : DY g5 (x + 21) := by rw [d5]; exact Y4.sm Sm.sI
  have x5 : Ex (fun z => z = x + 21 ∨ z = x + 22) g g5 := by
    rw [d5, d4, d3, d2, d1]
    exact ((((Ex.sI (Or.inr rfl)).trans (Ex.sI (Or.inr rfl))).trans (Ex.sI (Or.inr rfl))).trans (Ex.sI (Or.inr rfl))).trans (Ex.sI (Or.inr rfl))
  have r5 : hI g5 (x + 21 + 1) = va_up (va_up (va_up (va_up (va_up (hI g (x + 21 + 1)) u l3) (u + 1) l4) (u + 2) l5) (u + 3) l6) (u + 4) s0 := by
    rw [d5, hI_sI_eq, d4, hI_sI_eq, d3, hI_sI_eq, d2, hI_sI_eq, d1, hI_sI_eq]
  have q5 : hI g5 (x + 21) = hI g (x + 21) := by
    rw [d5, hI_sI_ne (by omega), d4, hI_sI_ne (by omega), d3, hI_sI_ne (by omega), d2, hI_sI_ne (by omega), d1, hI_sI_ne (by omega)]
  have x6 : Ex (fun z => z = x + 21 ∨ z = x + 22) g (sI g5 (x + 21) 1 (nI (D.1 + 1))) := x5.trans (Ex.sI (Or.inl rfl))
  have ea : hI g5 (x + 21) 1 + (1 : Int32) = nI (D.1 + 1) := by
    rw [q5, C.1]
    exact nI_1 _
  rw [if_neg (show ¬ decide ((xSn X 59 s).1 = 0) = false by rw [decide_eq_true c]; decide), ck_p Y.1, C.1, if_neg (show ¬ (40 : Int32) ≤ nI D.1 from fun w => by have := (nI_leI (a := 40) (by decide) (by omega)).mp w; omega), eu, bd_e, Y.2.1, rq_s, ck_p Y.2.2.1, Y.2.2.2, ck_p (nI_ix (by omega) (by decide)), ix_nI (show u < 2 ^ 31 by omega), bd_e, ← d1, ck_p Y1.1, Y1.2.1, rq_s, ck_p Y1.2.2.1, Y1.2.2.2, u1, ck_p (nI_ix (by omega) (by decide)), ix_nI (show u + 1 < 2 ^ 31 by omega), bd_e, ← d2, ck_p Y2.1, Y2.2.1, rq_s, ck_p Y2.2.2.1, Y2.2.2.2, u2, ck_p (nI_ix (by omega) (by decide)), ix_nI (show u + 2 < 2 ^ 31 by omega), bd_e, ← d3, ck_p Y3.1, Y3.2.1, rq_s, ck_p Y3.2.2.1, Y3.2.2.2, u3, ck_p (nI_ix (by omega) (by decide)), ix_nI (show u + 3 < 2 ^ 31 by omega), bd_e, ← d4, ck_p Y4.1, Y4.2.1, rq_s, ck_p Y4.2.2.1, Y4.2.2.2, u4, ck_p (nI_ix (by omega) (by decide)), ix_nI (show u + 4 < 2 ^ 31 by omega), bd_e, ← d5, ck_p Y5.1, ea, bd_e]
  refine ⟨_, rfl, (a2.mono (fun z hz => hz.1)).trans (x6.kx (fun z hz => by omega)), a3.de x6, fun _ => ⟨?_, fun k hk => ?_⟩⟩
  · rw [hI_sI_eq, va_eq]
    rfl
  · have hk : k < 5 * (D.1 + 1) := hk
    show hI (sI g5 (x + 21) 1 (nI (D.1 + 1))) (x + 21 + 1) k = nI (va_up (va_up (va_up (va_up (va_up D.2 (5 * D.1) c0) (5 * D.1 + 1) c1) (5 * D.1 + 2) c2) (5 * D.1 + 3) c3) (5 * D.1 + 4) c4 k)
    rw [hI_sI_ne (by omega), r5, ← ud]
    by_cases k4 : k = u + 4
    · rw [k4, va_eq, va_eq]; exact e4
    rw [va_ne k4, va_ne k4]
    by_cases k3 : k = u + 3
    · rw [k3, va_eq, va_eq]; exact e3
    rw [va_ne k3, va_ne k3]
    by_cases k2 : k = u + 2
    · rw [k2, va_eq, va_eq]; exact e2
    rw [va_ne k2, va_ne k2]
    by_cases k1 : k = u + 1
    · rw [k1, va_eq, va_eq]; exact e1
    rw [va_ne k1, va_ne k1]
    by_cases k0 : k = u
    · rw [k0, va_eq, va_eq]; exact e0
    rw [va_ne k0, va_ne k0]
    exact C.2 k (by omega)
/-- a house -/
theorem z_22 (hB : 2000 ≤ N) {r : Int32} (z : CZ X x h s) : ∃ h', f_X0_readHouse_22 N (x + 1) r h = some (r, h') ∧ Kx x (fun z => z ≠ x + 1) h h' ∧ CZ X x h' (stp X s) := by
  obtain ⟨g, a1, a2, a3⟩ := z_step hB z
  unfold f_X0_readHouse_22
  rw [ck_p z.1.1.1, a1, cl_s]
  exact ⟨g, rfl, a2, a3⟩
theorem z_rh1 (hB : 2000 ≤ N) (z : CZ X x h s) (q : NmC h v cnt nm) : ∃ r h', f_X0_readHouse N (x + 1) v (-1) h = some (r, h') ∧ Kx x (fun z => z ≠ x + 1) h h' ∧ CZ X x h' (dyT X cnt nm 2 s) ∧ ((dyT X cnt nm 2 s).1 = 0 → r = nI (dyV X cnt nm 2 s)) := by
  obtain ⟨g, a1, a2, a3⟩ := z_toldHere (N := N) hB (k := 2) (by decide) z q
  have a1 : f_X5_toldHere N (x + 1) v 2 h = _ := a1
  obtain ⟨g2, b1, b2, b3⟩ := z_22 (N := N) hB (r := if (xTld X cnt nm 2 s).1 = 0 then nI (nfi cnt nm 2 (xwv X s.2)) else -1) a3
  refine ⟨if (xTld X cnt nm 2 s).1 = 0 then nI (nfi cnt nm 2 (xwv X s.2)) else -1, g2, ?_, a2.trans b2, b3, fun e => if_pos (stp_n.mp e)⟩
  unfold f_X0_readHouse
  rw [ck_p z.1.1.1, a1, cl_s]
  by_cases c : (if (xTld X cnt nm 2 s).1 = 0 then nI (nfi cnt nm 2 (xwv X s.2)) else -1) = (-1 : Int32)
  · rw [if_pos c]; exact b1
  · rw [if_neg c, if_neg c]; exact b1
theorem z_rh2 (hB : 2000 ≤ N) {l2 : Int32} (ha : a < 1000) (hl : s.1 = 0 → l2 = nI a) (z : CZ X x h s) (q : NmC h v cnt nm) : ∃ r h', f_X0_readHouse N (x + 1) v l2 h = some (r, h') ∧ Kx x (fun z => z ≠ x + 1) h h' ∧ CZ X x h' (dyI X cnt nm a s) ∧ ((dyI X cnt nm a s).1 = 0 → r = nI (dyV X cnt nm 2 s)) := by
  obtain ⟨g, a1, a2, a3⟩ := z_toldHere (N := N) hB (k := 2) (by decide) z q
  have a1 : f_X5_toldHere N (x + 1) v 2 h = _ := a1
  have m5 := (q.2 2 (by decide)).1
  have mk := mk5_le 2
  unfold f_X0_readHouse
  rw [ck_p z.1.1.1, a1, cl_s]
  by_cases c : (xTld X cnt nm 2 s).1 = 0
  rotate_left
  · obtain ⟨g2, b1, b2, b3⟩ := z_22 (N := N) hB (r := -1) a3
    have e : dyI X cnt nm a s = stp X (xTld X cnt nm 2 s) := by
      unfold dyI
      by_cases d : dyV X cnt nm 2 s = a
      · rw [if_pos d, flt_z c]
      · rw [if_neg d]
    rw [if_neg c, if_pos rfl, e]
    exact ⟨_, g2, b1, a2.trans b2, b3, fun w => absurd (stp_n.mp w) c⟩
  have s0 := xTld_0 c
  have lt : dyV X cnt nm 2 s < cnt 2 := (xTld_s c).2.1
  rw [if_pos c, if_neg (ni1 (show nfi cnt nm 2 (xwv X s.2) < 1000 by have : nfi cnt nm 2 (xwv X s.2) < cnt 2 := lt; omega)), hl s0, ite_i (nI_eq (show nfi cnt nm 2 (xwv X s.2) < 2 ^ 31 by have : nfi cnt nm 2 (xwv X s.2) < cnt 2 := lt; omega) (show a < 2 ^ 31 by omega))]
  by_cases d : nfi cnt nm 2 (xwv X s.2) = a
  · obtain ⟨g1, c1, c2, c3⟩ := z_fail (N := N) (k := 3) ⟨by decide, by decide⟩ a3
    have c1 : f_X5_fail N (x + 1) 3 g = _ := c1
    obtain ⟨g2, b1, b2, b3⟩ := z_22 (N := N) hB (r := nI (nfi cnt nm 2 (xwv X s.2))) c3
    have e : dyI X cnt nm a s = stp X (flt X 3 (xTld X cnt nm 2 s)) := by
      unfold dyI
      rw [if_pos (show dyV X cnt nm 2 s = a from d)]
    rw [if_pos d, ck_p a3.1.1.1, c1, cl_s, e]
    exact ⟨_, g2, b1, (a2.trans c2).trans b2, b3, fun _ => rfl⟩
  · obtain ⟨g2, b1, b2, b3⟩ := z_22 (N := N) hB (r := nI (nfi cnt nm 2 (xwv X s.2))) a3
    have e : dyI X cnt nm a s = stp X (xTld X cnt nm 2 s) := by
      unfold dyI
      rw [if_neg (show ¬ dyV X cnt nm 2 s = a from d)]
    rw [if_neg d, e]
    exact ⟨_, g2, b1, a2.trans b2, b3, fun _ => rfl⟩
end DYC
