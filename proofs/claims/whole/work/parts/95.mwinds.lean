/-! The reference reads a line: winds. -/
/-- the same, but for the winds -/
def wnB (D0 : DV) (n : Nat) (W : Nat → Nat) : DV := (va_up (vC D0) 5 n, vN D0, vD D0, vS D0, vB D0, vF D0, vT D0, vR D0, vG D0, W, vL D0)
section ML5
variable {N y : Nat} {X : TX} {D0 : DV} {h0 : PH}
/-- while winds are read -/
def WnR (X : TX) (D0 : DV) (y : Nat) (h0 h : PH) (t : ZS) (n : Nat) (W : Nat → Nat) : Prop := t.1 = 0 ∧ RZ X y h t.2 ∧ Pf y h0 h ∧ NmM h y 1 (vC D0) (vN D0) ∧ hI h y 23 = hI h0 y 23 ∧ (∀ j, 2 ≤ j → j ≤ 16 → j ≠ 11 → hI h (y + j) = hI h0 (y + j)) ∧ ∀ k, k < n → hI h (y + 11) (12 + k) = nI (W k)
theorem wnS_0 {D : DV} {t : ZS} (hn : vC D 5 < 12) : wnS X D t = xNu X 0 9 t := by
  unfold wnS
  rw [if_neg (fun z => by omega)]
/-- one wind -/
theorem m_w35 (hN : 2000 ≤ N) {K : Nat → Int32 → PH → Option (Int32 × PH)} {t : ZS} {n : Nat} {W : Nat → Nat} {h : PH} (hn : n ≤ 12) (r : WnR X D0 y h0 h t n W) : ((wnS X (wnB D0 n W) t).1 ≠ 0 → ∃ h', f_X11_readsWinds_35 N K y (nI n) h = some (0, h') ∧ Pf y h0 h' ∧ MRs X y h' (wnS X (wnB D0 n W) t)) ∧ ((wnS X (wnB D0 n W) t).1 = 0 → n < 12 ∧ ∃ h', f_X11_readsWinds_35 N K y (nI n) h = K y (nI (n + 1)) h' ∧ WnR X D0 y h0 h' (wnS X (wnB D0 n W) t) (n + 1) (va_up W n (xnv X t.2)) ∧ wnD X (wnB D0 n W) t = wnB D0 (n + 1) (va_up W n (xnv X t.2))) := by
  obtain ⟨ht, z, p, nq, y23, o, w⟩ := r
  have tl := xty_le (X := X) (p := t.2)
  have c5 : vC (wnB D0 n W) 5 = n := by
    show va_up (vC D0) 5 n 5 = n
    exact va_eq
  have et : t = (0, t.2) := ZS.e ht
  have un : f_X11_readsWinds_35 N K y (nI n) h = if xty X t.2 = 2 then (if xnv X t.2 ≤ 9 then (if n = 12 then (cl (f_X11_fails N y (5 : Int32) h) fun r13 h14 => ck (r13 = 0 ∨ r13 = 1) <| some (r13, h14)) else (ck (inb ((12 : Int32) + nI n) 24) <| bd (sI h (y + 11) (ix ((12 : Int32) + nI n)) (nI (xnv X t.2))) fun h8 => bd (nI n + (1 : Int32)) fun v9 => ck (hK h8 y = 10) <| cl (f_X11_nextToken N y h8) fun r10 h11 => K y v9 h11)) else (cl (f_X11_fails N y (4 : Int32) h) fun r16 h17 => ck (r16 = 0 ∨ r16 = 1) <| some (r16, h17))) else (cl (f_X11_fails N y (1 : Int32) h) fun r19 h20 => ck (r19 = 0 ∨ r19 = 1) <| some (r19, h20)) := by
    unfold f_X11_readsWinds_35
    rw [ck_p z.1.1.1, z.2.2.2.2.1, ite_i (show nI (xty X t.2) = (2 : Int32) ↔ xty X t.2 = 2 from nI_eq (b := 2) (by omega) (by decide))]
    by_cases c : xty X t.2 = 2
    · have lt := xnv_lt c
      rw [if_pos c, if_pos c, z.2.2.2.2.2.2 c, ite_i (show nI (xnv X t.2) ≤ (9 : Int32) ↔ xnv X t.2 ≤ 9 from nI_leI (b := 9) (by omega) (by decide)), ite_i (show nI n = (12 : Int32) ↔ n = 12 from nI_eq (b := 12) (by omega) (by decide)), mR_wind z.1.1, rq_s, ck_p (mK_wind z.1.1), mN_wind z.1.1]
    · rw [if_neg c, if_neg c]
  -- a fault
  have bad : ∀ k, 1 ≤ k → wnS X (wnB D0 n W) t = (k + 16 * xbg X t.2, t.2) → ∃ h', (cl (f_X11_fails N y (nI k) h) fun r13 h14 => ck (r13 = 0 ∨ r13 = 1) <| some (r13, h14)) = some (0, h') ∧ Pf y h0 h' ∧ MRs X y h' (wnS X (wnB D0 n W) t) := fun k hk e => by
    obtain ⟨g, r1, r2, r3⟩ := m_fails (N := N) (k := k) z
    rw [r1, cl_s, ck_p (Or.inl rfl), e]
    exact ⟨g, rfl, p.trans r2.rj.pf, MRs.f hk r3⟩
  rw [un]
  by_cases c : xty X t.2 = 2
  rotate_left
  · have nu : ¬ sNu X t = true := fun e => c (sNu_i.mp e).2
    have e : wnS X (wnB D0 n W) t = (1 + 16 * xbg X t.2, t.2) := by
      unfold wnS
      rw [if_neg (fun z => nu z.2.1), xNu_n ht nu]
    refine ⟨fun _ => ?_, fun q => ?_⟩
    · rw [if_neg c]
      exact bad 1 (by decide) e
    · rw [e] at q
      have q : 1 + 16 * xbg X t.2 = 0 := q
      omega
  have nu : sNu X t = true := sNu_i.mpr ⟨ht, c⟩
  rw [if_pos c]
  by_cases c9 : xnv X t.2 ≤ 9
  rotate_left
  · have e : wnS X (wnB D0 n W) t = (4 + 16 * xbg X t.2, t.2) := by
      unfold wnS
      rw [if_neg (fun z => c9 z.2.2), xNu_r nu (fun z => c9 z.2)]
    refine ⟨fun _ => ?_, fun q => ?_⟩
    · rw [if_neg c9]
      exact bad 4 (by decide) e
    · rw [e] at q
      have q : 4 + 16 * xbg X t.2 = 0 := q
      omega
  rw [if_pos c9]
  by_cases c12 : n = 12
  · have e : wnS X (wnB D0 n W) t = (5 + 16 * xbg X t.2, t.2) := by
      unfold wnS
      rw [if_pos ⟨by rw [c5]; omega, nu, c9⟩, xNu_z (flt_n (by decide)), flt_0 ht]
    refine ⟨fun _ => ?_, fun q => ?_⟩
    · rw [if_pos c12]
      exact bad 5 (by decide) e
    · rw [e] at q
      have q : 5 + 16 * xbg X t.2 = 0 := q
      omega
  have e : wnS X (wnB D0 n W) t = (0, xnx X t.2) := by
    rw [wnS_0 (by rw [c5]; omega), xNu_y nu ⟨Nat.zero_le _, c9⟩]
  rw [if_neg c12]
  refine ⟨fun q => absurd (by rw [e]) q, fun _ => ⟨by omega, ?_⟩⟩
  have i12 : (12 : Int32) + nI n = nI (12 + n) := nI_add 12 n
  have z1 : RZ X y (sI h (y + 11) (12 + n) (nI (xnv X t.2))) t.2 := z.W (by decide)
  obtain ⟨g, a1, k1, t1, z2⟩ := m_next (N := N) hN z1
  refine ⟨g, ?_, ⟨by rw [e], by rw [e]; exact z2, (p.trans (Pf.I (by decide) (by decide) (by show 12 ≤ _; omega))).trans k1.rj.pf, (nq.W (by decide) (by decide)).rx k1.1, by rw [k1.2.1 23 (by omega), hI_sI_ne (by omega)]; exact y23, fun j a b d => by rw [(k1.1.2.2 _ (by omega)).1, hI_sI_ne (by omega)]; exact o j a b d, fun k hk => ?_⟩, ?_⟩
  · rw [i12, ck_p (nI_ix (by omega) (by decide)), ix_nI (by omega), bd_e, bd_e, ck_p z1.1.1.1, a1, cl_s, nI_1]
  · rw [(k1.1.2.2 _ (by omega)).1, hI_sI_eq]
    by_cases ek : k = n
    · rw [ek, va_eq, va_eq]
    · rw [va_ne (by omega), va_ne ek]
      exact w k (by omega)
  · rw [wnD_y ⟨by rw [e], by rw [c5]; omega⟩, c5]
    show (va_up (va_up (vC D0) 5 n) 5 (n + 1), _) = (va_up (vC D0) 5 (n + 1), _)
    rw [show va_up (va_up (vC D0) 5 n) 5 (n + 1) = va_up (vC D0) 5 (n + 1) from by
      funext i
      unfold va_up
      by_cases q : i = 5
      · rw [if_pos q, if_pos q]
      · rw [if_neg q, if_neg q, if_neg q]]
    rfl
/-- the further winds, and the end -/
theorem m_wl (hN : 2000 ≤ N) : ∀ (d n f : Nat) (t : ZS) (W : Nat → Nat) (h : PH), 1 ≤ n → n + d = 13 → n ≤ 12 → d < f → WnR X D0 y h0 h t n W → ∃ h', f_X11_readsWinds_22 N f y (nI n) h = some (yb (decide ((xSn X 59 (wnL X d t (wnB D0 n W)).1).1 = 0)), h') ∧ Pf y h0 h' ∧ MRs X y h' (xSn X 59 (wnL X d t (wnB D0 n W)).1) ∧ ((xSn X 59 (wnL X d t (wnB D0 n W)).1).1 = 0 → ∃ n' W', (wnL X d t (wnB D0 n W)).2 = wnB D0 n' W' ∧ NmM h' y 1 (vC D0) (vN D0) ∧ hI h' y 23 = hI h0 y 23 ∧ hI h' (y + 2) 11 = nI n' ∧ (∀ j, 3 ≤ j → j ≤ 16 → j ≠ 11 → hI h' (y + j) = hI h0 (y + j)) ∧ ∀ k, k < n' → hI h' (y + 11) (12 + k) = nI (W' k))
  | d, n, 0, t, W, h, h1, h2, hn, h3, r => by omega
  | d, n, f + 1, t, W, h, h1, h2, hn, h3, r => by
    have r0 := r
    obtain ⟨ht, z, p, nq, y23, o, w⟩ := r
    have et : t = (0, t.2) := ZS.e ht
    have sg := m_isSign (N := N) (c := 59) (by decide) z
    have sg : f_X11_isSign N y 59 h = some (yb (sSg X (0, t.2) 59), h) := sg
    rw [← et] at sg
    show ∃ h', f_X11_readsWinds_22_b N (f_X11_readsWinds_22 N f) y (nI n) h = _ ∧ _
    unfold f_X11_readsWinds_22_b
    rw [if_neg (show ¬ nI n = 0 from fun e => by
      by_cases b : n < 2 ^ 31
      · have := (nI_eq (b := 0) b (by decide)).mp e
        omega
      · omega), ck_p z.1.1.1, sg, cl_s, ite_i yb0]
    by_cases c : sSg X t 59 = true
    · -- the end
      have nu : ¬ sNu X t = true := fun e => by
        have a := (sNu_i.mp e).2
        have b := (sSg_i.mp c).2.1
        omega
      have el : wnL X d t (wnB D0 n W) = (t, wnB D0 n W) := by
        cases d with
        | zero => rfl
        | succ d => exact if_neg nu
      obtain ⟨g2, gd2⟩ : ∃ g, g = sI h (y + 2) 11 (nI n) := ⟨_, rfl⟩
      have z2 : RZ X y g2 t.2 := by rw [gd2]; exact z.W (by decide)
      have n2 : NmM g2 y 1 (vC D0) (vN D0) := by
        rw [gd2]
        exact ⟨nq.1.sm Sm.sI, fun k hk => by rw [hI_sI_eq, va_ne (by omega)]; exact nq.2 k hk⟩
      have p2 : Pf y h0 g2 := by rw [gd2]; exact p.trans (Pf.I (by decide) (by decide) (by show 6 ≤ _; omega))
      obtain ⟨g3, a3, k3, t3⟩ := M_closes (N := N) hN ht z2
      have m := z.1.1
      rw [if_neg (by rw [c]; decide), ck_p m.1, mR_valley m, rq_s, ck_p (mK_valley m), mN_valley m, ck_p (by decide), bd_e, ← gd2, ck_p z2.1.1.1, a3, cl_s, ck_p yb_g, el]
      refine ⟨g3, rfl, p2.trans k3.rj.pf, t3, fun _ => ⟨n, W, rfl, n2.rx k3.1, ?_, ?_, fun j a b d => ?_, fun k hk => ?_⟩⟩
      · rw [k3.2.1 23 (by omega), gd2, hI_sI_ne (by omega)]; exact y23
      · rw [(k3.1.2.2 _ (by omega)).1, gd2, hI_sI_eq, va_eq]
      · rw [(k3.1.2.2 _ (by omega)).1, gd2, hI_sI_ne (by omega)]; exact o j (by omega) b d
      · rw [(k3.1.2.2 _ (by omega)).1, gd2, hI_sI_ne (by omega)]; exact w k hk
    · rw [if_pos (sF_of c)]
      obtain ⟨b1, b2⟩ := m_w35 (N := N) (K := f_X11_readsWinds_22 N f) hN hn r0
      obtain ⟨d, rfl⟩ : ∃ e, d = e + 1 := ⟨d - 1, by omega⟩
      by_cases nu : sNu X t = true
      · have el : wnL X (d + 1) t (wnB D0 n W) = wnL X d (wnS X (wnB D0 n W) t) (wnD X (wnB D0 n W) t) := if_pos nu
        rw [el]
        by_cases cs : (wnS X (wnB D0 n W) t).1 = 0
        · obtain ⟨l12, g, r1, r2, r3⟩ := b2 cs
          rw [r1, r3]
          exact m_wl hN d (n + 1) f (wnS X (wnB D0 n W) t) (va_up W n (xnv X t.2)) g (by omega) (by omega) (by omega) (by omega) r2
        · obtain ⟨g, r1, r2, r3⟩ := b1 cs
          have ew : wnD X (wnB D0 n W) t = wnB D0 n W := wnD_n (fun q => cs q.1)
          have el2 : ∀ e, wnL X e (wnS X (wnB D0 n W) t) (wnB D0 n W) = (wnS X (wnB D0 n W) t, wnB D0 n W) := fun e => by
            cases e with
            | zero => rfl
            | succ e => exact if_neg (fun q => cs (sNu_i.mp q).1)
          rw [r1, ew, el2 d, xSn_z cs]
          exact ⟨g, by rw [decide_eq_false cs]; rfl, r2, r3, fun q => absurd q cs⟩
      · have el : wnL X (d + 1) t (wnB D0 n W) = (t, wnB D0 n W) := if_neg nu
        have es : wnS X (wnB D0 n W) t = (1 + 16 * xbg X t.2, t.2) := by
          unfold wnS
          rw [if_neg (fun z => nu z.2.1), xNu_n ht nu]
        have cs : (wnS X (wnB D0 n W) t).1 ≠ 0 := by
          rw [es]
          show 1 + 16 * xbg X t.2 ≠ 0
          omega
        obtain ⟨g, r1, r2, r3⟩ := b1 cs
        have e2 : xSn X 59 t = wnS X (wnB D0 n W) t := by rw [es, xSn_n ht c]
        rw [r1, el]
        show ∃ h', some (0, g) = some (yb (decide ((xSn X 59 t).1 = 0)), h') ∧ _ ∧ MRs X y h' (xSn X 59 t) ∧ ((xSn X 59 t).1 = 0 → _)
        rw [e2]
        exact ⟨g, by rw [decide_eq_false cs]; rfl, r2, r3, fun q => absurd q cs⟩
theorem m_readsWinds (hN : 2000 ≤ N) {D : DV} {s : ZS} {h : PH} (hs : s.1 = 0) (z : RZ X y h s.2) (q : DM h y D) (dw : DW D) : ∃ h', f_X11_readsWinds N y h = some (yb (decide ((wi4 X D s).1 = 0)), h') ∧ Pf y h h' ∧ MRs X y h' (wi4 X D s) ∧ ((wi4 X D s).1 = 0 → DM h' y (wi3 X D s).2) := by
  have n0 := q.1
  have m := n0.1
  have m12 := dw.1.2
  have e11 := q.2.1
  unfold f_X11_readsWinds
  rw [ck_p m.1, mR_valley m, rq_s, ck_p (mK_valley m), mN_valley m, ck_p (by decide), e11, ite_i (show nI (vC D 5) ≤ 0 ↔ vC D 5 ≤ 0 from nI_leI (b := 0) (by omega) (by decide))]
  by_cases c : vC D 5 ≤ 0
  rotate_left
  · obtain ⟨g, r1, r2, r3⟩ := m_fails (N := N) (k := 3) z
    have r1 : f_X11_fails N y 3 h = _ := r1
    have e1 : wi1 X D s = (3 + 16 * xbg X s.2, s.2) := by
      unfold wi1
      rw [if_neg (by omega), flt_0 hs]
    have c1 : (wi1 X D s).1 ≠ 0 := by
      rw [e1]
      show 3 + 16 * xbg X s.2 ≠ 0
      omega
    have e2 : wi2 X D s = wi1 X D s := stp_z c1
    have c2 : (wi2 X D s).1 ≠ 0 := by rw [e2]; exact c1
    have nu : ¬ sNu X (wi2 X D s) = true := fun w => c2 (sNu_i.mp w).1
    have e3 : wnS X D (wi2 X D s) = wi2 X D s := by
      unfold wnS
      rw [if_neg (fun w => nu w.2.1), xNu_z c2]
    have e4 : (wi3 X D s).1 = wi2 X D s := by
      unfold wi3
      rw [e3]
      show (if sNu X (wi2 X D s) = true then _ else _ : ZS × DV).1 = _
      rw [if_neg nu]
    have fz : wi4 X D s = wi1 X D s := by
      unfold wi4
      rw [e4, xSn_z c2, e2]
    rw [if_neg c, r1, cl_s, ck_p (Or.inl rfl), fz]
    exact ⟨g, by rw [decide_eq_false c1]; rfl, r2.rj.pf, by rw [e1]; exact MRs.f (by decide) r3, fun e => absurd e c1⟩
  have c0 : vC D 5 = 0 := by omega
  have e1 : wi1 X D s = s := if_pos c0
  obtain ⟨g1, a1, k1, t1, z1⟩ := m_next (N := N) hN z
  have es2 : wi2 X D s = (0, xnx X s.2) := by
    unfold wi2
    rw [e1]
    exact stp_0 hs
  have eB : D = wnB D 0 (vW D) := by
    unfold wnB
    have : va_up (vC D) 5 0 = vC D := by
      funext i
      by_cases e : i = 5
      · rw [e, va_eq, c0]
      · rw [va_ne e]
    rw [this]
    rfl
  have r1 : WnR X D y h g1 (wi2 X D s) 0 (vW D) := ⟨by rw [es2], by rw [es2]; exact z1, k1.rj.pf, n0.rx k1.1, k1.2.1 23 (by omega), fun j a b _ => (k1.1.2.2 _ (by omega)).1, fun k hk => absurd hk (Nat.not_lt_zero k)⟩
  obtain ⟨N', rfl⟩ : ∃ k, N = k + 1 := ⟨N - 1, by omega⟩
  obtain ⟨b1, b2⟩ := m_w35 (N := N' + 1) (K := f_X11_readsWinds_22 (N' + 1) N') hN (show 0 ≤ 12 by decide) r1
  rw [← eB] at b1 b2
  have un : f_X11_readsWinds_22 (N' + 1) (N' + 1) y 0 g1 = f_X11_readsWinds_35 (N' + 1) (f_X11_readsWinds_22 (N' + 1) N') y (nI 0) g1 := by
    show f_X11_readsWinds_22_b (N' + 1) (f_X11_readsWinds_22 (N' + 1) N') y 0 g1 = _
    unfold f_X11_readsWinds_22_b
    rw [if_pos rfl]
    rfl
  rw [if_pos c, a1, cl_s, un]
  by_cases cs : (wnS X D (wi2 X D s)).1 = 0
  · obtain ⟨l12, g, r2, r3, r4⟩ := b2 cs
    obtain ⟨h', t1, t2, t3, t4⟩ := m_wl hN 12 1 N' (wnS X D (wi2 X D s)) (va_up (vW D) 0 (xnv X (wi2 X D s).2)) g (Nat.le_refl 1) rfl (by decide) (by omega) r3
    rw [← r4] at t1 t3 t4
    rw [r2]
    refine ⟨h', t1, t2, t3, fun e => ?_⟩
    obtain ⟨n', W', u1, u2, u3, u4, u5, u6⟩ := t4 e
    have u1 : (wi3 X D s).2 = wnB D n' W' := u1
    rw [u1]
    obtain ⟨-, q1, q2, q3, q4, q5, q6, q7, -⟩ := id q
    have cv : ∀ j, j ≠ 5 → vC (wnB D n' W') j = vC D j := fun j hj => by
      show va_up (vC D) 5 n' j = _
      exact va_ne hj
    refine DM.up q ⟨u2.1, fun k hk => by
      show va_up (vC D) 5 n' k ≤ mk5 k ∧ hI h' (y + 2) (6 * 1 + k) = nI (va_up (vC D) 5 n' k) ∧ ∀ i, i < va_up (vC D) 5 n' k → _
      rw [va_ne (by omega)]
      exact u2.2 k hk⟩ ?_ ?_ ?_ ?_ ?_ ?_ ?_ rfl u3 (fun j hj => u5 j (by omega) (by omega) (by omega))
    · rw [u4]
      show _ = nI (va_up (vC D) 5 n' 5)
      rw [va_eq]
    · rw [u5 4 (by decide) (by decide) (by decide), u5 5 (by decide) (by decide) (by decide), u5 6 (by decide) (by decide) (by decide)]
      exact fun k hk => q2 k (by rw [cv 0 (by decide)] at hk; exact hk)
    · rw [u5 7 (by decide) (by decide) (by decide)]
      exact fun k hk => q3 k (by rw [cv 2 (by decide)] at hk; exact hk)
    · rw [u5 8 (by decide) (by decide) (by decide)]
      exact fun i f hi hf => q4 i f (by rw [cv 2 (by decide)] at hi; exact hi) hf
    · rw [u5 9 (by decide) (by decide) (by decide)]
      exact fun k hk => q5 k (by rw [cv 3 (by decide)] at hk; exact hk)
    · rw [u5 10 (by decide) (by decide) (by decide)]
      exact fun k hk => q6 k (by rw [cv 4 (by decide)] at hk; exact hk)
    · intro k hk
      have hk : k < va_up (vC D) 5 n' 5 := hk
      rw [va_eq] at hk
      exact u6 k hk
  · obtain ⟨g, r2, r3, r4⟩ := b1 cs
    have nu : ¬ sNu X (wnS X D (wi2 X D s)) = true := fun w => cs (sNu_i.mp w).1
    have e4 : (wi3 X D s).1 = wnS X D (wi2 X D s) := by
      unfold wi3
      show (if sNu X (wnS X D (wi2 X D s)) = true then _ else _ : ZS × DV).1 = _
      rw [if_neg nu]
    have fz : wi4 X D s = wnS X D (wi2 X D s) := by
      unfold wi4
      rw [e4, xSn_z cs]
    rw [r2, fz]
    exact ⟨g, by rw [decide_eq_false cs]; rfl, r3, r4, fun e => absurd e cs⟩
end ML5
