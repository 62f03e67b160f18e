/-! day: the class reads all its lines. -/
/-- lines one after another; nothing is told yet -/
def rdD (X : TX) (cnt : Nat → Nat) (nm : Nat → Nat → Nat) : Nat → ZS × AD → ZS × AD
  | 0, p => p
  | n + 1, p => if p.1.1 = 0 ∧ xty X p.1.2 ≠ 0 then rdD X cnt nm n (dyS X cnt nm p.2.1 p.1, dyD X cnt nm p.2 p.1) else p
def DA0 : AD := (0, fun _ => 0)
def k1D (x z : Nat) : Prop := z ≠ x + 1 ∧ z ≠ x + 21 ∧ z ≠ x + 22
section DYE
variable {N x v a : Nat} {X : TX} {cnt : Nat → Nat} {nm : Nat → Nat → Nat} {s : ZS} {h h' : PH} {D : AD}
theorem k1D_m {x : Nat} : ∀ z, k1D x z → z ≠ x + 1 := fun z hz => hz.1
theorem z_71a (hB : 2000 ≤ N) {l3 : Int32} (n1 : ¬ l3 = 1) (n2 : ¬ l3 = 2) (z : CZ X x h s) (d : DX x v cnt nm D h) (hd : s.1 = 0 → D.1 < 40 ∧ l3 = nI 0) : ∃ h', f_X0_readLine_71 N (x + 21) (x + 1) v l3 h = some ((), h') ∧ Kx x (k1D x) h h' ∧ CZ X x h' (xSn X 59 (dyT X cnt nm 0 (dyT X cnt nm 2 (stp X s)))) ∧ ((xSn X 59 (dyT X cnt nm 0 (dyT X cnt nm 2 (stp X s)))).1 = 0 → CD h' (x + 21) (dyP D 0 (dyV X cnt nm 2 (stp X s)) 0 (dyV X cnt nm 0 (dyT X cnt nm 2 (stp X s))) 0)) := by
  obtain ⟨g1, a1, a2, a3⟩ := z_step (N := N) hB z
  have q1 := d.kx a2
  obtain ⟨r, g2, b1, b2, b3, b4⟩ := z_rh1 (N := N) hB a3 q1.1
  have q2 := q1.kx b2
  obtain ⟨g3, c1, c2, c3⟩ := z_toldHere (N := N) hB (k := 0) (by decide) b3 q2.1
  have c1 : f_X5_toldHere N (x + 1) v 0 g2 = _ := c1
  have q3 := q2.kx c2
  obtain ⟨g4, e1, e2, e3⟩ := z_step (N := N) hB c3
  have q4 := q3.kx e2
  have so : (dyT X cnt nm 0 (dyT X cnt nm 2 (stp X s))).1 = 0 → s.1 = 0 := fun w => stp_n.mp (dyT_0 (dyT_0 w).1).1
  obtain ⟨h', f1, f2, f3, f4⟩ := z_146 (N := N) (l3 := l3) (l4 := r) (l5 := 0) (l6 := if (xTld X cnt nm 0 (dyT X cnt nm 2 (stp X s))).1 = 0 then nI (nfi cnt nm 0 (xwv X (dyT X cnt nm 2 (stp X s)).2)) else -1) (s0 := 0) (c0 := 0) (c1 := dyV X cnt nm 2 (stp X s)) (c2 := 0) (c3 := dyV X cnt nm 0 (dyT X cnt nm 2 (stp X s))) (c4 := 0) hB (show CZ X x g4 (dyT X cnt nm 0 (dyT X cnt nm 2 (stp X s))) from e3) q4 (fun w => (hd (so w)).1) (fun w => by
    have w0 := xSn_0 w
    exact ⟨(hd (so w0)).2, b4 (dyT_0 w0).1, rfl, if_pos (stp_n.mp w0), rfl⟩)
  refine ⟨h', ?_, (((a2.mono k1D_m).trans (b2.mono k1D_m)).trans ((c2.mono k1D_m).trans (e2.mono k1D_m))).trans f2, f3, f4⟩
  unfold f_X0_readLine_71 f_X0_readLine_90 f_X0_readLine_108 f_X0_readLine_130
  rw [ck_p z.1.1.1, a1, cl_s, if_neg n2, b1, cl_s, if_neg n1, if_neg n2, ck_p b3.1.1.1, c1, cl_s, ck_p c3.1.1.1, e1, cl_s, if_neg n1]
  exact f1
theorem z_71b (hB : 2000 ≤ N) (z : CZ X x h s) (d : DX x v cnt nm D h) (hd : s.1 = 0 → D.1 < 40) : ∃ h', f_X0_readLine_71 N (x + 21) (x + 1) v 1 h = some ((), h') ∧ Kx x (k1D x) h h' ∧ CZ X x h' (xSn X 59 (xNu X 1 99 (dyT X cnt nm 0 (dyA X cnt nm (stp X s))))) ∧ ((xSn X 59 (xNu X 1 99 (dyT X cnt nm 0 (dyA X cnt nm (stp X s))))).1 = 0 → CD h' (x + 21) (dyP D 1 (dyV X cnt nm 2 (stp X s)) (dyV X cnt nm 2 (dyT X cnt nm 2 (stp X s))) (dyV X cnt nm 0 (dyA X cnt nm (stp X s))) (xnv X (dyT X cnt nm 0 (dyA X cnt nm (stp X s))).2))) := by
  obtain ⟨g1, a1, a2, a3⟩ := z_step (N := N) hB z
  have q1 := d.kx a2
  obtain ⟨r, g2, b1, b2, b3, b4⟩ := z_rh1 (N := N) hB a3 q1.1
  have q2 := q1.kx b2
  have va : dyV X cnt nm 2 (stp X s) < 1000 := by
    have l1 := nfi_le (cnt := cnt) (nm := nm) (k := 2) (c := xwv X (stp X s).2)
    have l2 := (q1.1.2 2 (by decide)).1
    have l3 := mk5_le 2
    unfold dyV
    omega
  obtain ⟨r2, g5, j1, j2, j3, j4⟩ := z_rh2 (N := N) hB va b4 b3 q2.1
  have j3 : CZ X x g5 (dyA X cnt nm (stp X s)) := j3
  have j4 : (dyA X cnt nm (stp X s)).1 = 0 → r2 = nI (dyV X cnt nm 2 (dyT X cnt nm 2 (stp X s))) := j4
  have ja : (dyA X cnt nm (stp X s)).1 = 0 → (dyT X cnt nm 2 (stp X s)).1 = 0 := fun w => (dyI_0 w).1
  have q5 := q2.kx j2
  generalize dyA X cnt nm (stp X s) = u at *
  obtain ⟨g3, c1, c2, c3⟩ := z_toldHere (N := N) hB (k := 0) (by decide) j3 q5.1
  have c1 : f_X5_toldHere N (x + 1) v 0 g5 = _ := c1
  have q3 := q5.kx c2
  obtain ⟨g4, e1, e2, e3⟩ := z_step (N := N) hB c3
  have q4 := q3.kx e2
  obtain ⟨r3, g6, m1, m2, m3, m4⟩ := z_expectNumber (N := N) (a := 1) (b := 99) (l1 := 1) (l2 := 99) hB (by decide) (by decide) (fun _ => rfl) rfl (show CZ X x g4 (dyT X cnt nm 0 u) from e3)
  have q6 := q4.kx m2
  have so : (dyT X cnt nm 0 u).1 = 0 → s.1 = 0 := fun w => stp_n.mp (dyT_0 (ja (dyT_0 w).1)).1
  obtain ⟨h', f1, f2, f3, f4⟩ := z_146 (N := N) (l3 := 1) (l4 := r) (l5 := r2) (l6 := if (xTld X cnt nm 0 u).1 = 0 then nI (nfi cnt nm 0 (xwv X u.2)) else -1) (s0 := r3) (c0 := 1) (c1 := dyV X cnt nm 2 (stp X s)) (c2 := dyV X cnt nm 2 (dyT X cnt nm 2 (stp X s))) (c3 := dyV X cnt nm 0 u) (c4 := xnv X (dyT X cnt nm 0 u).2) hB m3 q6 (fun w => hd (so (xNu_0 w))) (fun w => by
    have w0 := xSn_0 w
    have w1 := xNu_0 w0
    have w2 := (dyT_0 w1).1
    exact ⟨rfl, b4 (ja w2), j4 w2, if_pos (stp_n.mp w1), m4 w0⟩)
  refine ⟨h', ?_, ((((a2.mono k1D_m).trans (b2.mono k1D_m)).trans ((j2.mono k1D_m).trans ((c2.mono k1D_m).trans (e2.mono k1D_m)))).trans (m2.mono k1D_m)).trans f2, f3, f4⟩
  unfold f_X0_readLine_71 f_X0_readLine_90 f_X0_readLine_108 f_X0_readLine_130
  rw [ck_p z.1.1.1, a1, cl_s, if_neg (by decide), b1, cl_s, if_pos rfl, j1, cl_s, if_neg (by decide), ck_p j3.1.1.1, c1, cl_s, ck_p c3.1.1.1, e1, cl_s, if_pos rfl, ck_p e3.1.1.1, m1, cl_s]
  exact f1
theorem z_71c (hB : 2000 ≤ N) (z : CZ X x h s) (d : DX x v cnt nm D h) (hd : s.1 = 0 → D.1 < 40) : ∃ h', f_X0_readLine_71 N (x + 21) (x + 1) v 2 h = some ((), h') ∧ Kx x (k1D x) h h' ∧ CZ X x h' (xSn X 59 (stp X s)) ∧ ((xSn X 59 (stp X s)).1 = 0 → CD h' (x + 21) (dyP D 2 0 0 0 0)) := by
  obtain ⟨g1, a1, a2, a3⟩ := z_step (N := N) hB z
  have q1 := d.kx a2
  obtain ⟨h', f1, f2, f3, f4⟩ := z_146 (N := N) (l3 := 2) (l4 := 0) (l5 := 0) (l6 := 0) (s0 := 0) (c0 := 2) (c1 := 0) (c2 := 0) (c3 := 0) (c4 := 0) hB a3 q1 (fun w => hd (stp_n.mp w)) (fun w => ⟨rfl, rfl, rfl, rfl, rfl⟩)
  refine ⟨h', ?_, (a2.mono k1D_m).trans f2, f3, f4⟩
  unfold f_X0_readLine_71 f_X0_readLine_90 f_X0_readLine_108 f_X0_readLine_130
  rw [ck_p z.1.1.1, a1, cl_s, if_pos rfl, if_neg (by decide), if_pos rfl, if_neg (by decide)]
  exact f1
/-- what stands before the line's own words -/
def dyZ (X : TX) (k n : Nat) (s : ZS) : ZS := if k = 3 then flt X 1 s else if n < 40 then s else flt X 5 s
theorem dyZ_0 {k n : Nat} (e : (dyZ X k n s).1 = 0) : k ≠ 3 ∧ n < 40 := (dy1_0 (X := X) (k := k) (n := n) (s := s) (stp_n.mpr e)).2
theorem z_43 (hB : 2000 ≤ N) {k : Nat} {s0 : Int32} (hk : (k = 3 ∧ s0 = -1) ∨ (k ≠ 3 ∧ ¬ s0 = -1)) (hn : D.1 ≤ 40) (z : CZ X x h s) (d : DX x v cnt nm D h) : ∃ g, f_X0_readLine_43 N s0 (x + 21) (x + 1) v h = f_X0_readLine_71 N (x + 21) (x + 1) v s0 g ∧ Kx x (fun z => z ≠ x + 1) h g ∧ CZ X x g (dyZ X k D.1 s) := by
  unfold f_X0_readLine_43 dyZ
  rcases hk with ⟨k1, k2⟩ | ⟨k1, k2⟩
  · obtain ⟨g, c1, c2, c3⟩ := z_fail (N := N) (k := 1) ⟨by decide, by decide⟩ z
    have c1 : f_X5_fail N (x + 1) 1 h = _ := c1
    rw [if_pos k2, if_pos k1, ck_p z.1.1.1, c1, cl_s]
    exact ⟨g, rfl, c2, c3⟩
  · rw [if_neg k2, if_neg k1, ck_p d.2.1.1, d.2.2.1.1, ite_i (show nI D.1 < (40 : Int32) ↔ D.1 < 40 from nI_ltI (b := 40) (by omega) (by decide))]
    by_cases c : D.1 < 40
    · rw [if_pos c, if_pos c]
      exact ⟨h, rfl, Kx.rf, z⟩
    · obtain ⟨g, c1, c2, c3⟩ := z_fail (N := N) (k := 5) ⟨by decide, by decide⟩ z
      have c1 : f_X5_fail N (x + 1) 5 h = _ := c1
      rw [if_neg c, if_neg c, ck_p z.1.1.1, c1, cl_s]
      exact ⟨g, rfl, c2, c3⟩
theorem dy_2 (c : dyK X s = 2) {n : Nat} : dyS X cnt nm n s = xSn X 59 (stp X (dyZ X 2 n s)) ∧ dyD X cnt nm D s = dyP D 2 0 0 0 0 := by
  unfold dyS dyD
  rw [if_pos c, if_pos c, c]
  exact ⟨rfl, rfl⟩
theorem dy_1 (c : dyK X s = 1) : dyS X cnt nm D.1 s = xSn X 59 (xNu X 1 99 (dyT X cnt nm 0 (dyA X cnt nm (stp X (dyZ X 1 D.1 s))))) ∧ dyD X cnt nm D s = dyP D 1 (dyV X cnt nm 2 (stp X (dyZ X 1 D.1 s))) (dyV X cnt nm 2 (dyT X cnt nm 2 (stp X (dyZ X 1 D.1 s)))) (dyV X cnt nm 0 (dyA X cnt nm (stp X (dyZ X 1 D.1 s)))) (xnv X (dyT X cnt nm 0 (dyA X cnt nm (stp X (dyZ X 1 D.1 s)))).2) := by
  unfold dyS dyD
  rw [if_neg (by rw [c]; decide), if_pos c, if_neg (by rw [c]; decide), if_pos c, c]
  exact ⟨rfl, rfl⟩
theorem dy_0 {k : Nat} (c : dyK X s = k) (k1 : ¬ k = 1) (k2 : ¬ k = 2) : dyS X cnt nm D.1 s = xSn X 59 (dyT X cnt nm 0 (dyT X cnt nm 2 (stp X (dyZ X k D.1 s)))) ∧ dyD X cnt nm D s = dyP D 0 (dyV X cnt nm 2 (stp X (dyZ X k D.1 s))) 0 (dyV X cnt nm 0 (dyT X cnt nm 2 (stp X (dyZ X k D.1 s)))) 0 := by
  unfold dyS dyD
  rw [if_neg (by rw [c]; exact k2), if_neg (by rw [c]; exact k1), if_neg (by rw [c]; exact k2), if_neg (by rw [c]; exact k1), c]
  exact ⟨rfl, rfl⟩
theorem z_dline (hB : 2000 ≤ N) (hn : D.1 ≤ 40) (z : CZ X x h s) (d : DX x v cnt nm D h) : ∃ h', f_X0_readLine N (x + 21) (x + 1) v h = some ((), h') ∧ Kx x (k1D x) h h' ∧ CZ X x h' (dyS X cnt nm D.1 s) ∧ ((dyS X cnt nm D.1 s).1 = 0 → CD h' (x + 21) (dyD X cnt nm D s)) := by
  unfold f_X0_readLine
  rw [ck_p z.1.1.1, z_isAt (i := 16) (by decide) z, cl_s, ite_i yb0]
  by_cases c0 : sWd X s 16 = true
  · have ek : dyK X s = 0 := by unfold dyK; rw [if_pos c0]
    obtain ⟨g, a1, a2, a3⟩ := z_43 (N := N) hB (k := 0) (s0 := 0) (Or.inr ⟨by decide, by decide⟩) hn z d
    obtain ⟨h', b1, b2, b3, b4⟩ := z_71a (N := N) hB (l3 := 0) (by decide) (by decide) a3 (d.kx a2) (fun w => ⟨(dyZ_0 w).2, rfl⟩)
    obtain ⟨f1, f2⟩ := dy_0 (X := X) (cnt := cnt) (nm := nm) (s := s) (D := D) ek (by decide) (by decide)
    rw [if_neg (by rw [c0]; decide), a1, b1, f1, f2]
    exact ⟨h', rfl, (a2.mono k1D_m).trans b2, b3, b4⟩
  rw [if_pos (sF_of c0), ck_p z.1.1.1, z_isAt (i := 17) (by decide) z, cl_s, ite_i yb0]
  by_cases c1 : sWd X s 17 = true
  · have ek : dyK X s = 1 := by unfold dyK; rw [if_neg c0, if_pos c1]
    obtain ⟨g, a1, a2, a3⟩ := z_43 (N := N) hB (k := 1) (s0 := 1) (Or.inr ⟨by decide, by decide⟩) hn z d
    obtain ⟨h', b1, b2, b3, b4⟩ := z_71b (N := N) hB a3 (d.kx a2) (fun w => (dyZ_0 w).2)
    obtain ⟨f1, f2⟩ := dy_1 (X := X) (cnt := cnt) (nm := nm) (s := s) (D := D) ek
    rw [if_neg (by rw [c1]; decide), a1, b1, f1, f2]
    exact ⟨h', rfl, (a2.mono k1D_m).trans b2, b3, b4⟩
  rw [if_pos (sF_of c1), ck_p z.1.1.1, z_isAt (i := 18) (by decide) z, cl_s, ite_i yb0]
  by_cases c2 : sWd X s 18 = true
  · have ek : dyK X s = 2 := by unfold dyK; rw [if_neg c0, if_neg c1, if_pos c2]
    obtain ⟨g, a1, a2, a3⟩ := z_43 (N := N) hB (k := 2) (s0 := 2) (Or.inr ⟨by decide, by decide⟩) hn z d
    obtain ⟨h', b1, b2, b3, b4⟩ := z_71c (N := N) hB a3 (d.kx a2) (fun w => (dyZ_0 w).2)
    obtain ⟨f1, f2⟩ := dy_2 (X := X) (cnt := cnt) (nm := nm) (s := s) (D := D) ek (n := D.1)
    rw [if_neg (by rw [c2]; decide), a1, b1, f1, f2]
    exact ⟨h', rfl, (a2.mono k1D_m).trans b2, b3, b4⟩
  rw [if_pos (sF_of c2)]
  have ek : dyK X s = 3 := by unfold dyK; rw [if_neg c0, if_neg c1, if_neg c2]
  obtain ⟨g, a1, a2, a3⟩ := z_43 (N := N) hB (k := 3) (s0 := -1) (Or.inl ⟨rfl, rfl⟩) hn z d
  obtain ⟨h', b1, b2, b3, b4⟩ := z_71a (N := N) hB (l3 := -1) (by decide) (by decide) a3 (d.kx a2) (fun w => absurd rfl (dyZ_0 w).1)
  obtain ⟨f1, f2⟩ := dy_0 (X := X) (cnt := cnt) (nm := nm) (s := s) (D := D) ek (by decide) (by decide)
  rw [a1, b1, f1, f2]
  exact ⟨h', rfl, (a2.mono k1D_m).trans b2, b3, b4⟩
theorem dyD_n : (dyD X cnt nm D s).1 = D.1 + 1 := by
  unfold dyD
  by_cases c : dyK X s = 2
  · rw [if_pos c]; rfl
  rw [if_neg c]
  by_cases c1 : dyK X s = 1
  · rw [if_pos c1]; rfl
  rw [if_neg c1]; rfl
theorem rdD_z {p : ZS × AD} (h : ¬ (p.1.1 = 0 ∧ xty X p.1.2 ≠ 0)) : ∀ n, rdD X cnt nm n p = p
  | 0 => rfl
  | n + 1 => by unfold rdD; rw [if_neg h]
theorem z_dlines (hB : 2000 ≤ N) (hv : x + 43 ≤ v) : ∀ n m i h (p : ZS × AD), i + n = 41 → n < m → v + 18 ≤ hz h → NmC h v cnt nm → DY h (x + 21) → CZ X x h p.1 → (p.1.1 = 0 → CD h (x + 21) p.2 ∧ p.2.1 = i) → ∃ h', f_X0_readFrom_11 N m (x + 21) (x + 1) v (nI i) h = some ((), h') ∧ Kx x (k1D x) h h' ∧ CZ X x h' (rdD X cnt nm n p).1 ∧ ((rdD X cnt nm n p).1.1 = 0 → CD h' (x + 21) (rdD X cnt nm n p).2)
  | n, 0, i, h, p, e1, e2, hl, q, Y, z, g => by omega
  | 0, m + 1, i, h, p, e1, e2, hl, q, Y, z, g => by
    refine ⟨h, ?_, Kx.rf, z, fun w => (g w).1⟩
    show f_X0_readFrom_11_b N (f_X0_readFrom_11 N m) (x + 21) (x + 1) v (nI i) h = _
    unfold f_X0_readFrom_11_b
    rw [if_pos (show (40 : Int32) < nI i from (nI_ltI (a := 40) (by decide) (by omega)).mpr (by omega))]
  | n + 1, m + 1, i, h, p, e1, e2, hl, q, Y, z, g => by
    obtain ⟨r, o1, o2⟩ := z_over (N := N) z
    show ∃ h', f_X0_readFrom_11_b N (f_X0_readFrom_11 N m) (x + 21) (x + 1) v (nI i) h = some ((), h') ∧ _
    unfold f_X0_readFrom_11_b
    rw [if_neg (show ¬ (40 : Int32) < nI i from fun w => by have := (nI_ltI (a := 40) (by decide) (by omega)).mp w; omega), ck_p z.1.1.1, o1, cl_s, ite_i o2]
    by_cases c : p.1.1 = 0 ∧ xty X p.1.2 ≠ 0
    rotate_left
    · rw [if_neg c, rdD_z c]
      exact ⟨h, rfl, Kx.rf, z, fun w => (g w).1⟩
    obtain ⟨g1, g2⟩ := g c.1
    obtain ⟨h1, a1, a2, a3, a4⟩ := z_dline (N := N) (D := p.2) (s := p.1) hB (by omega) z (show DX x v cnt nm p.2 h from ⟨q, Y, g1, hl, hv⟩)
    obtain ⟨h', b1, b2, b3, b4⟩ := z_dlines hB hv n m (i + 1) h1 (dyS X cnt nm p.2.1 p.1, dyD X cnt nm p.2 p.1) (by omega) (by omega) (Nat.le_trans hl a2.1.2.1) (q.kx a2 (fun z z1 z2 => by unfold k1D; omega) hl hv) (Y.shp a2.1 (by omega) (by omega)) a3 (fun e => ⟨a4 e, by rw [show ((dyS X cnt nm p.2.1 p.1, dyD X cnt nm p.2 p.1) : ZS × AD).2.1 = p.2.1 + 1 from dyD_n, g2]⟩)
    have er : rdD X cnt nm (n + 1) p = rdD X cnt nm n (dyS X cnt nm p.2.1 p.1, dyD X cnt nm p.2 p.1) := by
      show (if p.1.1 = 0 ∧ xty X p.1.2 ≠ 0 then rdD X cnt nm n (dyS X cnt nm p.2.1 p.1, dyD X cnt nm p.2 p.1) else p) = _
      rw [if_pos c]
    rw [if_pos c, ck_p Y.1, a1, cl_s, nI_1, bd_e, er]
    exact ⟨h', b1, a2.trans b2, b3, b4⟩
theorem z_readFrom (hB : 2000 ≤ N) (hv : x + 43 ≤ v) (hl : v + 18 ≤ hz h) (q : NmC h v cnt nm) (Y : DY h (x + 21)) (tb : TB X x h) : ∃ h', f_X0_readFrom N (x + 21) (x + 1) v h = some ((), h') ∧ Kx x (k1D x) h h' ∧ CZ X x h' (rdD X cnt nm 41 ((0, 0), DA0)).1 ∧ ((rdD X cnt nm 41 ((0, 0), DA0)).1.1 = 0 → CD h' (x + 21) (rdD X cnt nm 41 ((0, 0), DA0)).2) := by
  obtain ⟨g, gd⟩ : ∃ g, g = sI h (x + 21) 1 0 := ⟨_, rfl⟩
  have x1 : Ex (fun z => z = x + 21) h g := by rw [gd]; exact Ex.sI rfl
  have k1 : Kx x (k1D x) h g := x1.kx (fun z hz w => hz.2.1 w)
  have q1 : NmC g v cnt nm := q.kx k1 (fun z z1 z2 => by unfold k1D; omega) hl hv
  have Y1 : DY g (x + 21) := Y.sm x1.1
  have t1 : TB X x g := by
    obtain ⟨p1, p2, p3, p4, p5, p6⟩ := tb
    exact ⟨p1.sm x1.1, by rw [x1.2.1]; exact p2, by rw [x1.1.2.2.2]; exact p3, p4, by rw [x1.2.2.2 _ (by omega)]; exact p5, fun k hk => by rw [x1.2.2.2 _ (by omega)]; exact p6 k hk⟩
  have c0 : CD g (x + 21) DA0 := ⟨by rw [gd, hI_sI_eq, va_eq]; rfl, fun k hk => absurd hk (Nat.not_lt_zero k)⟩
  have l1 : v + 18 ≤ hz g := Nat.le_trans hl k1.1.2.1
  obtain ⟨g2, b1, b2, b3⟩ := z_open (N := N) hB t1
  obtain ⟨h', c1, c2, c3, c4⟩ := z_dlines (N := N) hB hv 41 N 0 g2 ((0, 0), DA0) rfl (by omega) (Nat.le_trans l1 b2.1.2.1) (q1.kx b2 (fun z z1 z2 => by omega) l1 hv) (Y1.shp b2.1 (by omega) (by omega)) b3 (fun _ => ⟨c0.kx b2 (fun z z1 z2 => by omega), rfl⟩)
  have c1 : f_X0_readFrom_11 N N (x + 21) (x + 1) v 0 g2 = _ := c1
  refine ⟨h', ?_, (k1.trans (b2.mono k1D_m)).trans c2, c3, c4⟩
  unfold f_X0_readFrom
  rw [ck_p Y.1, bd_e, ← gd, ck_p t1.1.1, b1, cl_s]
  exact c1
end DYE
