/-! day: the reference reads all its lines. -/
def Dk (y : Nat) (h h' : PH) : Prop := Sm h h' ∧ hz h' = hz h ∧ (∀ z, z ≠ y → hJ h' z = hJ h z) ∧ (∀ z k, z ≠ y → ¬ ((z = y + 27 ∧ k = 5) ∨ (y + 28 ≤ z ∧ z ≤ y + 32 ∧ 200 ≤ k)) → hI h' z k = hI h z k) ∧ ∀ k, k = 1 ∨ k = 54 → hI h' y k = hI h y k
section DYN
variable {N y u p : Nat} {X : TX} {cnt : Nat → Nat} {nm : Nat → Nat → Nat} {s : ZS} {h h' : PH} {D : AD} {P Q : Nat → Prop} {A : AV}
theorem Dk.rf : Dk y h h := ⟨Sm.rfl', rfl, fun _ _ => rfl, fun _ _ _ _ => rfl, fun _ _ => rfl⟩
theorem Dk.trans {h1 : PH} (a : Dk y h h1) (b : Dk y h1 h') : Dk y h h' := ⟨a.1.trans b.1, b.2.1.trans a.2.1, fun z hz => (b.2.2.1 z hz).trans (a.2.2.1 z hz), fun z k hz hk => (b.2.2.2.1 z k hz hk).trans (a.2.2.2.1 z k hz hk), fun k hk => (b.2.2.2.2 k hk).trans (a.2.2.2.2 k hk)⟩
theorem Dq.dk (hu : 200 ≤ u) (hP : ∀ z, P z → y + 28 ≤ z ∧ z ≤ y + 32) (a : Dq y P u h h') : Dk y h h' := ⟨a.1, a.2.1, a.2.2.1, fun z k hz hk => a.2.2.2.1 z k hz (by
  by_cases c : P z
  · exact Or.inr (fun w => hk (Or.inr ⟨(hP z c).1, (hP z c).2, by omega⟩))
  · exact Or.inl c), a.2.2.2.2⟩
theorem Dq.dk5 (a : Dq y (fun z => z = y + 27) 5 h h') : Dk y h h' := ⟨a.1, a.2.1, a.2.2.1, fun z k hz hk => a.2.2.2.1 z k hz (by
  by_cases c : z = y + 27
  · exact Or.inr (fun w => hk (Or.inl ⟨c, w⟩))
  · exact Or.inl c), a.2.2.2.2⟩
theorem Rk.dk (a : Rk y h h') : Dk y h h' := (Dq.rk (P := fun z => z = y + 27) (u := 5) a).dk5
theorem NmM.dk (g : Dk y h h') (q : NmM h y 0 cnt nm) : NmM h' y 0 cnt nm := ⟨q.1.sm g.1, fun j hj => ⟨(q.2 j hj).1, by rw [g.2.2.2.1 (y + 2) _ (by omega) (by omega)]; exact (q.2 j hj).2.1, fun i hi => ⟨((q.2 j hj).2.2 i hi).1, by rw [g.2.2.1 (y + 3) (by omega)]; exact ((q.2 j hj).2.2 i hi).2⟩⟩⟩
theorem RD.dk {sl : Nat} (g : Dk y h h') (hs : sl < 5) (hn : D.1 ≤ 40) (r : RD h y sl D) : RD h' y sl D := by
  refine ⟨(g.2.2.2.1 (y + 27) _ (by omega) (by omega)).trans r.1, fun k hk => ?_⟩
  obtain ⟨r1, r2, r3⟩ := r.2 k hk
  have e : ∀ j, 28 ≤ j → j ≤ 32 → hI h' (y + j) (40 * sl + k) = hI h (y + j) (40 * sl + k) := fun j j1 j2 => g.2.2.2.1 (y + j) _ (by omega) (by omega)
  rw [e 28 (by decide) (by decide), e 29 (by decide) (by decide), e 30 (by decide) (by decide), e 31 (by decide) (by decide), e 32 (by decide) (by decide)]
  exact ⟨r1, r2, r3⟩
section DYPs
variable {c0 c1 c2 c3 c4 : Nat}
theorem dyP_l {j : Nat} (hj : j < 5 * D.1) : (dyP D c0 c1 c2 c3 c4).2 j = D.2 j := by
  show va_up (va_up (va_up (va_up (va_up D.2 (5 * D.1) c0) (5 * D.1 + 1) c1) (5 * D.1 + 2) c2) (5 * D.1 + 3) c3) (5 * D.1 + 4) c4 j = _
  rw [va_ne (by omega), va_ne (by omega), va_ne (by omega), va_ne (by omega), va_ne (by omega)]
theorem dyP_0 : (dyP D c0 c1 c2 c3 c4).2 (5 * D.1) = c0 := by
  show va_up (va_up (va_up (va_up (va_up D.2 (5 * D.1) c0) (5 * D.1 + 1) c1) (5 * D.1 + 2) c2) (5 * D.1 + 3) c3) (5 * D.1 + 4) c4 _ = _
  rw [va_ne (by omega), va_ne (by omega), va_ne (by omega), va_ne (by omega), va_eq]
theorem dyP_1 : (dyP D c0 c1 c2 c3 c4).2 (5 * D.1 + 1) = c1 := by
  show va_up (va_up (va_up (va_up (va_up D.2 (5 * D.1) c0) (5 * D.1 + 1) c1) (5 * D.1 + 2) c2) (5 * D.1 + 3) c3) (5 * D.1 + 4) c4 _ = _
  rw [va_ne (by omega), va_ne (by omega), va_ne (by omega), va_eq]
theorem dyP_2 : (dyP D c0 c1 c2 c3 c4).2 (5 * D.1 + 2) = c2 := by
  show va_up (va_up (va_up (va_up (va_up D.2 (5 * D.1) c0) (5 * D.1 + 1) c1) (5 * D.1 + 2) c2) (5 * D.1 + 3) c3) (5 * D.1 + 4) c4 _ = _
  rw [va_ne (by omega), va_ne (by omega), va_eq]
theorem dyP_3 : (dyP D c0 c1 c2 c3 c4).2 (5 * D.1 + 3) = c3 := by
  show va_up (va_up (va_up (va_up (va_up D.2 (5 * D.1) c0) (5 * D.1 + 1) c1) (5 * D.1 + 2) c2) (5 * D.1 + 3) c3) (5 * D.1 + 4) c4 _ = _
  rw [va_ne (by omega), va_eq]
theorem dyP_4 : (dyP D c0 c1 c2 c3 c4).2 (5 * D.1 + 4) = c4 := va_eq
theorem RD.add (n : D.1 < 40) (r : RD h y 5 D) (e27 : hI h' (y + 27) 5 = nI (D.1 + 1)) (e : ∀ j k, 28 ≤ j → j ≤ 32 → 200 ≤ k → k < 200 + D.1 → hI h' (y + j) k = hI h (y + j) k) (w0 : hI h' (y + 28) (200 + D.1) = nI c0) (w1 : c0 = 0 → hI h' (y + 29) (200 + D.1) = nI c1 ∧ hI h' (y + 30) (200 + D.1) = nI c3) (w2 : c0 = 1 → hI h' (y + 29) (200 + D.1) = nI c1 ∧ hI h' (y + 30) (200 + D.1) = nI c2 ∧ hI h' (y + 31) (200 + D.1) = nI c3 ∧ hI h' (y + 32) (200 + D.1) = nI c4) : RD h' y 5 (dyP D c0 c1 c2 c3 c4) := by
  refine ⟨e27, fun k hk => ?_⟩
  have hk : k < D.1 + 1 := hk
  rw [show 40 * 5 + k = 200 + k by omega]
  by_cases c : k = D.1
  · rw [c, dyP_0, dyP_1, dyP_2, dyP_3, dyP_4]
    exact ⟨w0, w1, w2⟩
  · rw [dyP_l (show 5 * k < 5 * D.1 by omega), dyP_l (show 5 * k + 1 < 5 * D.1 by omega), dyP_l (show 5 * k + 2 < 5 * D.1 by omega), dyP_l (show 5 * k + 3 < 5 * D.1 by omega), dyP_l (show 5 * k + 4 < 5 * D.1 by omega), e 28 _ (by decide) (by decide) (by omega) (by omega), e 29 _ (by decide) (by decide) (by omega) (by omega), e 30 _ (by decide) (by decide) (by omega) (by omega), e 31 _ (by decide) (by decide) (by omega) (by omega), e 32 _ (by decide) (by decide) (by omega) (by omega)]
    have := r.2 k (by omega)
    rw [show 40 * 5 + k = 200 + k by omega] at this
    exact this
theorem WD.add (n : D.1 < 40) (w : WD A D) (a0 : c0 ≤ 2) (a1 : c0 < 2 → c1 < aC A 2 ∧ c3 < aC A 0) (a2 : c0 = 1 → c2 < aC A 2 ∧ c2 ≠ c1 ∧ 1 ≤ c4 ∧ c4 ≤ 99) : WD A (dyP D c0 c1 c2 c3 c4) := by
  refine ⟨n, fun k hk => ?_⟩
  have hk : k < D.1 + 1 := hk
  by_cases c : k = D.1
  · rw [c, dyP_0, dyP_1, dyP_2, dyP_3, dyP_4]
    exact ⟨a0, a1, a2⟩
  · rw [dyP_l (show 5 * k < 5 * D.1 by omega), dyP_l (show 5 * k + 1 < 5 * D.1 by omega), dyP_l (show 5 * k + 2 < 5 * D.1 by omega), dyP_l (show 5 * k + 3 < 5 * D.1 by omega), dyP_l (show 5 * k + 4 < 5 * D.1 by omega)]
    exact w.2 k (by omega)
end DYPs
theorem m_120 (hB : 2000 ≤ N) {n : Nat} (hn : n < 40) (z : RZ X y h p) (e : hI h (y + 27) 5 = nI n) : ∃ h', f_X11_readsLine_120 N y h = some (yb (decide ((xSn X 59 (0, p)).1 = 0)), h') ∧ Dq y (fun z => z = y + 27) 5 h h' ∧ MRs X y h' (xSn X 59 (0, p)) ∧ hI h' (y + 27) 5 = nI (n + 1) ∧ ∀ z, z ≠ y → z ≠ y + 27 → hI h' z = hI h z := by
  have M := z.1.1
  obtain ⟨g1, d1⟩ : ∃ g1, g1 = sI h (y + 27) 5 (nI (n + 1)) := ⟨_, rfl⟩
  have x1 : Dq y (fun z => z = y + 27) 5 h g1 := by rw [d1]; exact Dq.I rfl (by omega)
  have z1 : RZ X y g1 p := by rw [d1]; exact z.w (by omega)
  obtain ⟨h', a1, a2, a3⟩ := m_closes (N := N) hB z1
  refine ⟨h', ?_, x1.trans (Dq.rk a2), a3, ?_, fun z hz hz2 => ?_⟩
  · unfold f_X11_readsLine_120
    rw [ck_p M.1, mR_lines M, rq_s, ck_p (mK_lines M), mN_lines M, ck_p (by decide), e, nI_1, bd_e, ← d1, ck_p z1.1.1.1, a1, cl_s, ck_p yb_g]
  · rw [(a2.1.2.2 (y + 27) (by omega)).1, d1, hI_sI_eq, va_eq]
  · rw [(a2.1.2.2 z hz).1, d1, hI_sI_ne hz2]
/-- what the line is; a place for it -/
theorem m_43f (hB : 2000 ≤ N) {k : Nat} (hk : k < 3) (z : RZ X y h p) (r : RD h y 5 D) (hn : D.1 = 40) : ∃ h', f_X11_readsLine_43 N (nI k) y h = some (0, h') ∧ Rk y h h' ∧ hI h' y 9 = nI (5 + 16 * xbg X p) := by
  have M := z.1.1
  obtain ⟨h', a1, a2, a3⟩ := m_fails (N := N) (k := 5) z
  have a1 : f_X11_fails N y 5 h = _ := a1
  refine ⟨h', ?_, a2, a3⟩
  unfold f_X11_readsLine_43
  rw [if_pos (show (0 : Int32) ≤ nI k from nI_le (a := 0) (Nat.zero_le _) (by omega)), ck_p M.1, mR_lines M, rq_s, ck_p (mK_lines M), mN_lines M, ck_p (by decide), if_pos (show hI h (y + 27) 5 = (40 : Int32) by rw [r.1, hn]; rfl), a1, cl_s, ck_p (Or.inl rfl)]
theorem m_43 (hB : 2000 ≤ N) {k : Nat} (hk : k < 3) (z : RZ X y h p) (r : RD h y 5 D) (hn : D.1 < 40) : ∃ h1, f_X11_readsLine_43 N (nI k) y h = (if nI k = 0 then cl (f_X11_readsBurn N y (nI (200 + D.1)) h1) (fun r19 h20 => if r19 = 0 then some ((0 : Int32), h20) else f_X11_readsLine_105 N y (nI k) (nI (200 + D.1)) h20) else f_X11_readsLine_105 N y (nI k) (nI (200 + D.1)) h1) ∧ RZ X y h1 (xnx X p) ∧ Dq y (fun z => y + 28 ≤ z ∧ z ≤ y + 32) (200 + D.1) h h1 ∧ hI h1 (y + 28) (200 + D.1) = nI k := by
  have M := z.1.1
  obtain ⟨g1, a1, a2, a3, a4⟩ := m_next (N := N) hB z
  have m1 := a4.1.1
  have e5 : hI g1 (y + 27) 5 = nI D.1 := by rw [(a2.1.2.2 (y + 27) (by omega)).1]; exact r.1
  have e6 : (200 : Int32) + nI D.1 = nI (200 + D.1) := nI_add 200 D.1
  refine ⟨sI g1 (y + 28) (200 + D.1) (nI k), ?_, a4.w (by omega), (Dq.rk a2).trans (Dq.I ⟨by omega, by omega⟩ (by omega)), by rw [hI_sI_eq, va_eq]⟩
  unfold f_X11_readsLine_43
  rw [if_pos (show (0 : Int32) ≤ nI k from nI_le (a := 0) (Nat.zero_le _) (by omega)), ck_p M.1, mR_lines M, rq_s, ck_p (mK_lines M), mN_lines M, ck_p (by decide), if_neg (show ¬ hI h (y + 27) 5 = (40 : Int32) from fun w => by
    rw [r.1] at w
    have := (nI_eq (b := 40) (show D.1 < 2 ^ 31 by omega) (by decide)).mp w
    omega), a1, cl_s, ck_p m1.1, mR_lines m1, rq_s, ck_p (mK_lines m1), mN_lines m1, ck_p (by decide), e5, e6, bd_e, mR_lineWhat m1, rq_s, ck_p (mK_lineWhat m1), mN_lineWhat m1, ck_p (nI_ix (by omega) (by decide)), ix_nI (show 200 + D.1 < 2 ^ 31 by omega), bd_e, ck_p (a4.w (b := y + 28) (k := 200 + D.1) (v := nI k) (by omega)).1.1.1]
end DYN
