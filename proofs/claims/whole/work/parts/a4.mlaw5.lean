/-! The reference's law: all depths; its line. -/
section MLA
variable {N y f l d m : Nat} {X : TX} {q : QS} {h h' : PH}
theorem gCl_z (z : q.1.1 ≠ 0) : gCl X q = q := by
  unfold gCl
  rw [if_neg (nsg z), flt_z z]
theorem o_part (hN : 2000 ≤ N) (hl : l < 2) : ∀ e d, d + e = 5 → OuP N X y f l e d
  | 0, d, hde => fun h q l0 => by
    obtain rfl : d = 5 := by omega
    have K := l0.2.1.1.1.1.1
    show Ou N X y f l 5 6 q h _ _ (if gBeg X (lwO l) q.1 = true then (flt X 5 q.1, q.2) else (flt X 1 q.1, q.2)) Tr
    by_cases c : gBeg X (lwO l) q.1 = true
    · obtain ⟨h1, a1, a2, a3⟩ := l0.bad (N := N) (d := 5) (m := 6) (c := f + q.2.2.length) (v := 5) (k := 5) rfl (by decide)
      rw [if_pos c]
      refine Ou.bad l0 (flt_n (by decide)) a3 a2 (fun n => ?_)
      show f_X11_reads_11_b N (f_X11_reads_11 N n) y (nI 5) 1 h = _
      rw [r_pb hl l0, if_pos c]
      unfold f_X11_reads_65
      rw [if_pos (show nI 5 = 5 from rfl), ck_p K, a1, cl_s, ck_p (Or.inl rfl)]
    · obtain ⟨h1, a1, a2, a3⟩ := l0.bad (N := N) (d := 5) (m := 6) (c := f + q.2.2.length) (v := 1) (k := 1) rfl (by decide)
      rw [if_neg c]
      refine Ou.bad l0 (flt_n (by decide)) a3 a2 (fun n => ?_)
      show f_X11_reads_11_b N (f_X11_reads_11 N n) y (nI 5) 1 h = _
      rw [r_pb hl l0, if_neg c, a1, cl_s, ck_p (Or.inl rfl)]
  | e + 1, d, hde => fun h q l0 => by
    have hd : d < 5 := by omega
    have K := l0.2.1.1.1.1.1
    have d5 : ¬ nI d = (5 : Int32) := fun z => by
      have := (nI_eq (b := 5) (by omega) (by decide)).mp z
      omega
    have ih := o_part hN hl e (d + 1) (by omega)
    show Ou N X y f l d (d + 1) q h _ _ (if gBeg X (lwO l) q.1 = true then (if sWd X q.1 19 = true then qC (-6) (gPart X (lwO l) e (qN X 30 q)) else if sSg X q.1 40 = true then gCl X (gTests X (gPart X (lwO l) e) (qN X 28 q)) else if gFact X (lwO l) q.1 = 0 then (stp X q.1, q.2.1 ++ [nI (xnv X q.1.2)], q.2.2 ++ [100 + xnv X q.1.2]) else (stp X q.1, q.2.1 ++ [gFc (gFact X (lwO l) q.1)], q.2.2 ++ [gFact X (lwO l) q.1])) else (flt X 1 q.1, q.2)) Tr
    by_cases c : gBeg X (lwO l) q.1 = true
    rotate_left
    · obtain ⟨h1, a1, a2, a3⟩ := l0.bad (N := N) (d := d) (m := d + 1) (c := f + q.2.2.length) (v := 1) (k := 1) rfl (by decide)
      rw [if_neg c]
      refine Ou.bad l0 (flt_n (by decide)) a3 a2 (fun n => ?_)
      show f_X11_reads_11_b N (f_X11_reads_11 N n) y (nI d) 1 h = _
      rw [r_pb hl l0, if_neg c, a1, cl_s, ck_p (Or.inl rfl)]
    rw [if_pos c]
    have f5 := (gFact_i (X := X) (o := lwO l) (s := q.1)).1
    by_cases cn : sWd X q.1 19 = true
    · obtain ⟨h1, a1, a2, a3, a4, a5⟩ := r_86 (N := N) (r := 30) (b := true) hN (Or.inl ⟨rfl, rfl⟩) hd l0 (sWd_t cn)
      have a4 : hI h1 (y + 15) (d + 1) = 1 := a4
      have hp : popd (hI h1 (y + 15)) (d + 1) = popd (hI h (y + 15)) d := by
        show (if hI h1 (y + 15) (d + 1) = 1 then popd (hI h1 (y + 15)) d else d + 1) = _
        rw [if_pos a4]
        exact popd_e d (fun j hj => a3.2.2.2.2.2.1 j hj)
      have o1 := ih h1 _ a2
      rw [hp] at o1
      rw [if_pos cn]
      refine Ou.step (G := fun n => f_X11_reads_11 N n y (nI (d + 1)) 1 h1) l0 (sWd_t cn) (fun n => ?_) a3 (Nat.le_succ d) (Nat.le_succ _) (o1.c (c := -6))
      show f_X11_reads_11_b N (f_X11_reads_11 N n) y (nI d) 1 h = _
      rw [r_pb hl l0, if_pos c]
      unfold f_X11_reads_65
      rw [if_neg d5, cn, if_neg (show ¬ yb true = 0 by decide)]
      exact a1 _
    rw [if_neg cn]
    by_cases co : sSg X q.1 40 = true
    · obtain ⟨h1, a1, a2, a3, a4, a5⟩ := r_86 (N := N) (r := 28) (b := false) hN (Or.inr ⟨rfl, rfl⟩) hd l0 (sSg_t co)
      have a4 : hI h1 (y + 15) (d + 1) = 2 := a4
      have b1 : Bs y (d + 1) h1 := by
        show (if hI h1 (y + 15) (d + 1) = 1 then popd (hI h1 (y + 15)) d else d + 1) = _
        rw [if_neg (by rw [a4]; decide)]
      have ht := o_tests hN (by omega) ih a2 b1 a5
      rw [if_pos co]
      refine Ou.step (d' := d + 1) (m' := d + 1) (G := fun n => f_X11_reads_11 N n y (nI (d + 1)) 1 h1) l0 (sSg_t co) (fun n => ?_) a3 (Nat.le_succ d) (Nat.le_refl _) (Ou.bind (Nat.le_refl _) (Nat.le_refl _) ht gCl_z (fun h2 l2 p2 cm => ?_))
      · show f_X11_reads_11_b N (f_X11_reads_11 N n) y (nI d) 1 h = _
        rw [r_pb hl l0, if_pos c]
        unfold f_X11_reads_65
        rw [if_neg d5, if_pos (show yb (sWd X q.1 19) = 0 by rw [sF_of cn]; rfl), if_neg (show ¬ yb (sSg X q.1 40) = 0 by rw [co]; decide)]
        have := a1 (f_X11_reads_11 N n)
        rw [sF_of cn]
        exact this
      · obtain ⟨⟨e1, e2, e3⟩, e4, e5⟩ := gTests_e (o := lwO l) (e := e) l0.ok a2.le
        have hp : popd (hI h2 (y + 15)) d = popd (hI h (y + 15)) d := popd_e d (fun j hj => (p2.2.2.2.2.2.1 j (by omega)).trans (a3.2.2.2.2.2.1 j hj))
        unfold gCl
        by_cases c41 : sSg X (gTests X (gPart X (lwO l) e) (qN X 28 q)).1 41 = true
        · obtain ⟨h3, b1, b2, b3⟩ := r_close (N := N) (d := d) (d' := d + 1) (m := d + 1) hN (by omega) l2 c41
          rw [hp] at b1
          rw [if_pos c41]
          have b2' : MLs X y f l h3 (stp X (gTests X (gPart X (lwO l) e) (qN X 28 q)).1, (gTests X (gPart X (lwO l) e) (qN X 28 q)).2.1, (gTests X (gPart X (lwO l) e) (qN X 28 q)).2.2 ++ [29]) := b2
          exact Ou.step (r := 29) (G := fun n => f_X11_reads_11 N n y (nI (popd (hI h (y + 15)) d)) 0 h3) l2 (sSg_t c41) b1 b3 (Nat.le_refl _) (Nat.le_refl _) (Ou.rf b2' trivial)
        · obtain ⟨h3, b1, b2, b3⟩ := r_endB (N := N) (d := d) (by omega) l2 e2 e3 e1 cm e4 e5 c41
          rw [if_neg c41]
          exact Ou.bad l2 (flt_n (Nat.le_refl 1)) b3 b2.pl b1
    rw [if_neg co]
    by_cases cf : gFact X (lwO l) q.1 = 0
    · have nu : sNu X q.1 = true := by
        rcases gBeg_i.mp c with w | w | w | w
        · exact absurd cf w
        · exact absurd w cn
        · exact absurd w co
        · exact w
      have t2 := (sNu_i.mp nu).2
      have v8 := l0.2.1.1.2.2.2.2.2.2 t2
      obtain ⟨h1, a1, a2, a3⟩ := r_147 (N := N) (d := d) (m := d + 1) (r := 100 + xnv X q.1.2) (v := nI (100 + xnv X q.1.2)) hN rfl (by omega) l0 (by omega)
      rw [if_pos cf]
      have st : ∀ n, f_X11_reads_11 N (n + 1) y (nI d) 1 h = f_X11_reads_11 N n y (nI (popd (hI h (y + 15)) d)) 0 h1 := fun n => by
        show f_X11_reads_11_b N (f_X11_reads_11 N n) y (nI d) 1 h = _
        rw [r_pb hl l0, if_pos c]
        unfold f_X11_reads_65
        rw [if_neg d5, if_pos (show yb (sWd X q.1 19) = 0 by rw [sF_of cn]; rfl), if_pos (show yb (sSg X q.1 40) = 0 by rw [sF_of co]; rfl), cf, if_pos (show nI 0 ≤ 0 by decide), ck_p K, v8, show (100 : Int32) + nI (xnv X q.1.2) = nI (100 + xnv X q.1.2) from nI_add 100 _]
        exact a1 _
      have a2' : MLs X y f l h1 (stp X q.1, q.2.1 ++ [nI (xnv X q.1.2)], q.2.2 ++ [100 + xnv X q.1.2]) := a2
      have gt := xnx_gt' (X := X) (p := q.1.2) (by omega)
      refine ⟨h1, 1, Or.inl ⟨a2'.1, a2', a3, by simp, ?_, trivial, st⟩⟩
      show 1 + q.1.2 ≤ (stp X q.1).2
      rw [stp_0 l0.1]
      show 1 + q.1.2 ≤ xnx X q.1.2
      omega
    · obtain ⟨f3, f4, f6⟩ := gFact_i.2 cf
      obtain ⟨h1, a1, a2, a3⟩ := r_147 (N := N) (d := d) (m := d + 1) (r := gFact X (lwO l) q.1) (v := nI (gFact X (lwO l) q.1)) hN rfl (by omega) l0 (by omega)
      rw [if_neg cf]
      have st : ∀ n, f_X11_reads_11 N (n + 1) y (nI d) 1 h = f_X11_reads_11 N n y (nI (popd (hI h (y + 15)) d)) 0 h1 := fun n => by
        show f_X11_reads_11_b N (f_X11_reads_11 N n) y (nI d) 1 h = _
        rw [r_pb hl l0, if_pos c]
        unfold f_X11_reads_65
        rw [if_neg d5, if_pos (show yb (sWd X q.1 19) = 0 by rw [sF_of cn]; rfl), if_pos (show yb (sSg X q.1 40) = 0 by rw [sF_of co]; rfl), if_neg (show ¬ nI (gFact X (lwO l) q.1) ≤ 0 from fun z => by have := (nI_leI (b := 0) (by omega) (by decide)).mp z; omega)]
        exact a1 _
      have a2' : MLs X y f l h1 (stp X q.1, q.2.1 ++ [gFc (gFact X (lwO l) q.1)], q.2.2 ++ [gFact X (lwO l) q.1]) := a2
      have gt := xnx_gt' (X := X) (p := q.1.2) (by omega)
      refine ⟨h1, 1, Or.inl ⟨a2'.1, a2', a3, by simp, ?_, trivial, st⟩⟩
      show 1 + q.1.2 ≤ (stp X q.1).2
      rw [stp_0 l0.1]
      show 1 + q.1.2 ≤ xnx X q.1.2
      omega
/-- a law is read: where it ends, its codes -/
theorem m_reads (hN : 2000 ≤ N) (hl : l < 2) (l0 : MLs X y f l h q) : ∃ h', f_X11_reads N y h = some (yb (decide ((xSn X 59 (gTests X (gPart X (lwO l) 5) q).1).1 = 0)), h') ∧ Pl y 0 0 (f + q.2.2.length) h h' ∧ MRs X y h' (xSn X 59 (gTests X (gPart X (lwO l) 5) q).1) ∧ ((xSn X 59 (gTests X (gPart X (lwO l) 5) q).1).1 = 0 → hI h' y 23 = nI (f + (gTests X (gPart X (lwO l) 5) q).2.2.length) ∧ ∀ k, k < (gTests X (gPart X (lwO l) 5) q).2.2.length → hI h' (y + 14) (f + k) = nI ((gTests X (gPart X (lwO l) 5) q).2.2.getD k 0)) := by
  have M := l0.2.1.1.1.1
  have g0 : MLs X y f l (sI h (y + 16) 0 ((0 : Int32) &&& 1)) q := ⟨l0.1, l0.2.1.w (Or.inr rfl), l0.2.2⟩
  have ot := o_tests hN (by decide) (o_part hN hl 5 0 rfl) g0 (rfl : Bs y 0 _) (by rw [hI_sI_eq, va_eq]; decide)
  obtain ⟨⟨e1, e2, e3⟩, e4, e5⟩ := gTests_e (o := lwO l) (e := 5) l0.ok l0.le
  have x1 := l0.ok.1
  have un : f_X11_reads N y h = f_X11_reads_11 N N y (nI 0) 1 (sI h (y + 16) 0 ((0 : Int32) &&& 1)) := by
    unfold f_X11_reads
    rw [ck_p M.1, mR_compared M, rq_s, ck_p (mK_compared M), mN_compared M, ck_p (by decide), bd_e]
    rfl
  have pc : Pl y 0 0 (f + q.2.2.length) h (sI h (y + 16) 0 ((0 : Int32) &&& 1)) := Pl.cc (Nat.le_refl 0)
  rw [un]
  obtain ⟨h1, k, ⟨a1, a2, a3, a4, a5, a6, a7⟩ | ⟨a1, a2, a3, a4, a5⟩⟩ := ot
  · obtain ⟨h2, b1, b2, b3⟩ := r_end0 hN a2 e2 e3 e1 a6 e4 e5
    have le := a2.le
    have hk : N = (N - k - 1) + 1 + k := by omega
    have r0 : f_X11_reads_11 N N y (nI 0) 1 (sI h (y + 16) 0 ((0 : Int32) &&& 1)) = some (yb (decide ((xSn X 59 (gTests X (gPart X (lwO l) 5) q).1).1 = 0)), h2) := by
      have s1 := a7 (N - k - 1 + 1)
      have s2 := b1 (N - k - 1)
      rw [← hk] at s1
      exact s1.trans s2
    refine ⟨h2, r0, (pc.trans a3).trans b2.pl, b3, fun _ => ⟨(b2.2.1 23 (by omega)).trans a2.2.1.2.1, ?_⟩⟩
    rw [(b2.1.2.2 (y + 14) (by omega)).1]
    exact a2.2.1.2.2.1
  · have hk : N = (N - k) + k := by omega
    have s1 := a5 (N - k)
    rw [← hk] at s1
    have s1 : f_X11_reads_11 N N y (nI 0) 1 (sI h (y + 16) 0 ((0 : Int32) &&& 1)) = some (0, h1) := s1
    rw [xSn_z a1, decide_eq_false a1]
    exact ⟨h1, s1, pc.trans a3, a2, fun z => absurd z a1⟩
end MLA
