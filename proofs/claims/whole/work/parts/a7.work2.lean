/-! The reference works a law: a step. -/
section WRS
variable {N y d : Nat} {h h' : PH}
theorem sm_o {f : WF} {r : Nat} (hr : r ≠ 21 ∧ r ≠ 24) : wSm f d r d = f r d := by
  unfold wSm
  rw [up2_o (Or.inl hr.2), up2_o (Or.inl hr.1)]
theorem sm_21 {f : WF} : wSm f d 21 d = wSv f d := by
  unfold wSm
  rw [up2_o (Or.inl (by decide)), up2_self]
theorem wk_44 {t : Int32} (M : MD h y) (hd : d ≤ 5) : f_X11_tests_44 N y (nI d) t h = f_X11_tests_136 N y (nI d) (wKv (wfh y h) d (if wfh y h 20 d = 25 then (if wfh y h 19 d = wfh y h 21 d then 1 else 0) else t)) h := by
  unfold f_X11_tests_44 f_X11_tests_75
  rw [ck_p M.1, mR_against M, rq_s, ck_p (mK_against M), mN_against M, ck_p (nI_ix (by omega) (by decide)), ix_nI (by omega)]
  by_cases c : hI h (y + 20) d = 25
  rotate_left
  · rw [if_neg c, if_neg (show ¬ wfh y h 20 d = 25 from c), wk_76 M hd]
  rw [if_pos c, if_pos (show wfh y h 20 d = 25 from c), mR_ahead M, rq_s, ck_p (mK_ahead M), mN_ahead M, ck_p (nI_ix (by omega) (by decide)), mR_sum M, rq_s, ck_p (mK_sum M), mN_sum M, ck_p (nI_ix (by omega) (by decide))]
  by_cases c2 : hI h (y + 19) d = hI h (y + 21) d
  · rw [if_pos c2, if_pos (show wfh y h 19 d = wfh y h 21 d from c2), wk_76 M hd]
  · rw [if_neg c2, if_neg (show ¬ wfh y h 19 d = wfh y h 21 d from c2), wk_76 M hd]
theorem wk_tests (M : MD h y) (hd : d ≤ 5) : ∃ h', f_X11_tests N y (nI d) h = some ((), h') ∧ wfh y h' = wTs (wfh y h) d ∧ Ex (P25 y) h h' ∧ hI h' (y + 17) d = wKv (wfh y h) d (wTv (wfh y h) d (wSv (wfh y h) d)) := by
  obtain ⟨g, a1, a2, a3⟩ := wk_sums (N := N) M hd
  have Mg := M.sm a3.1
  have k17 : wfh y g 17 d = wfh y h 17 d := by rw [a2]; exact sm_o (by decide)
  have k18 : wfh y g 18 d = wfh y h 18 d := by rw [a2]; exact sm_o (by decide)
  have k19 : wfh y g 19 d = wfh y h 19 d := by rw [a2]; exact sm_o (by decide)
  have k20 : wfh y g 20 d = wfh y h 20 d := by rw [a2]; exact sm_o (by decide)
  have k21 : wfh y g 21 d = wSv (wfh y h) d := by rw [a2]; exact sm_21
  have kK : ∀ t, wKv (wfh y g) d t = wKv (wfh y h) d t := fun t => by
    unfold wKv
    rw [k17, k18]
  have key : f_X11_tests N y (nI d) h = f_X11_tests_136 N y (nI d) (wKv (wfh y h) d (wTv (wfh y h) d (wSv (wfh y h) d))) g := by
    unfold f_X11_tests wTv f_X11_tests_43
    rw [ck_p M.1, a1, cl_s, ck_p Mg.1, mR_sum Mg, rq_s, ck_p (mK_sum Mg), mN_sum Mg, ck_p (nI_ix (by omega) (by decide)), ix_nI (by omega), bd_e, mR_against Mg, rq_s, ck_p (mK_against Mg), mN_against Mg, ck_p (nI_ix (by omega) (by decide))]
    by_cases c : hI g (y + 20) d = 24
    · have c' : wfh y h 20 d = 24 := k20.symm.trans c
      have c25 : ¬ wfh y g 20 d = 25 := by rw [k20, c']; decide
      rw [if_pos c, if_pos c', mR_ahead Mg, rq_s, ck_p (mK_ahead Mg), mN_ahead Mg, ck_p (nI_ix (by omega) (by decide)), rq_s, ck_p (mK_sum Mg), mN_sum Mg, ck_p (nI_ix (by omega) (by decide)), show hI g (y + 21) d = wSv (wfh y h) d from k21, show hI g (y + 19) d = wfh y h 19 d from k19]
      by_cases c2 : wSv (wfh y h) d ≤ wfh y h 19 d
      · rw [if_pos c2, if_pos c2, wk_44 Mg hd, if_neg c25, kK]
      · rw [if_neg c2, if_neg c2, wk_44 Mg hd, if_neg c25, kK]
    · have c' : ¬ wfh y h 20 d = 24 := fun z => c (k20.trans z)
      rw [if_neg c, if_neg c', wk_44 Mg hd, kK, k20, k19, k21, show hI g (y + 21) d = wSv (wfh y h) d from k21]
  have fin := wk_136 (N := N) (t := wKv (wfh y h) d (wTv (wfh y h) d (wSv (wfh y h) d))) Mg hd
  refine ⟨_, key.trans fin.1, ?_, a3.trans fin.2.2, ?_⟩
  · rw [fin.2.1, a2]
    rfl
  · show wfh y _ 17 d = _
    rw [fin.2.1, up2_o (Or.inl (by decide)), up2_o (Or.inl (by decide)), up2_o (Or.inl (by decide)), up2_self]
theorem wPop_d {f : WF} : ∀ d v, (wPop f d v).1 = popd (f 25) d
  | 0, v => rfl
  | d + 1, v => by
    unfold wPop popd
    by_cases c : f 25 (d + 1) = 1
    · rw [if_pos c, if_pos c]
      exact wPop_d d _
    · rw [if_neg c, if_neg c]
/-- the nots that wait -/
theorem wk_268 {K : Nat → Int32 → Int32 → Int32 → PH → Option (Int32 × PH)} {l1 l3 : Int32} (M : MD h y) : ∀ d n v, d < n → d ≤ 5 → f_X11_worked_268 N K n y l1 (nI d) l3 v h = f_X11_worked_300 N K y l1 (nI (wPop (wfh y h) d v).1) l3 (wPop (wfh y h) d v).2 h
  | 0, 0, v, h1, _ => by omega
  | d + 1, 0, v, h1, _ => by omega
  | 0, n + 1, v, h1, _ => by
    show f_X11_worked_268_b N K (f_X11_worked_268 N K n) y l1 (nI 0) l3 v h = _
    unfold f_X11_worked_268_b
    rw [if_pos (show nI 0 ≤ 0 by decide)]
    rfl
  | d + 1, n + 1, v, h1, h2 => by
    show f_X11_worked_268_b N K (f_X11_worked_268 N K n) y l1 (nI (d + 1)) l3 v h = _
    unfold f_X11_worked_268_b wPop f_X11_worked_292
    rw [if_neg (show ¬ nI (d + 1) ≤ 0 from fun z => by have := (nI_leI (b := 0) (by omega) (by decide)).mp z; omega), ck_p M.1, mR_byNot M, rq_s, ck_p (mK_byNot M), mN_byNot M, ck_p (nI_ix (by omega) (by decide)), ix_nI (by omega)]
    by_cases c : hI h (y + 25) (d + 1) = 1
    · rw [if_pos c, if_pos (show wfh y h 25 (d + 1) = 1 from c), nI_p]
      by_cases c2 : v = 0
      · rw [if_pos c2, if_pos c2, bd_e]
        exact wk_268 M d n _ (by omega) (by omega)
      · rw [if_neg c2, if_neg c2, bd_e]
        exact wk_268 M d n _ (by omega) (by omega)
    · rw [if_neg c, if_neg (show ¬ wfh y h 25 (d + 1) = 1 from c)]
/-- a value is taken in -/
theorem wk_fin {l1 : Int32} {i : Nat} {v : Int32} (M : MD h y) (hd : d ≤ 5) (hN : 2000 ≤ N) : ∃ h', (∀ K, f_X11_worked_268 N K N y l1 (nI d) (nI i) v h = K y l1 (nI (wFin (wfh y h) d v).1) (nI (i + 1)) h') ∧ wfh y h' = (wFin (wfh y h) d v).2 ∧ Ex (P25 y) h h' := by
  have hp : (wPop (wfh y h) d v).1 ≤ 5 := by rw [wPop_d]; exact Nat.le_trans (popd_le d) hd
  refine ⟨sI h (y + 23) (wPop (wfh y h) d v).1 (if wfh y h 24 (wPop (wfh y h) d v).1 = 0 then (wPop (wfh y h) d v).2 else wfh y h 23 (wPop (wfh y h) d v).1 * (wPop (wfh y h) d v).2), fun K => ?_, wfh_sI, exR (by decide)⟩
  rw [wk_268 M d N v (by omega) hd]
  unfold wFin
  generalize wPop (wfh y h) d v = p at *
  obtain ⟨e, u⟩ := p
  have hp : e ≤ 5 := hp
  unfold f_X11_worked_300 f_X11_worked_328 f_X11_worked_329
  show (ck (hK h y = 10) <| _) = _
  rw [ck_p M.1, mR_term M, rq_s, mR_termBy M, rq_s, ck_p (mK_termBy M), mN_termBy M, ck_p (nI_ix (by omega) (by decide)), ix_nI (by omega)]
  by_cases c : hI h (y + 24) e = 0
  · rw [if_pos c, ck_p (mK_term M), mN_term M, ck_p (nI_ix (by omega) (by decide)), bd_e, nI_1, bd_e]
    show _ = K y l1 (nI e) (nI (i + 1)) (sI h (y + 23) e (if hI h (y + 24) e = 0 then u else hI h (y + 23) e * u))
    rw [if_pos c]
  · rw [if_neg c, rq_s, ck_p (mK_term M), mN_term M, ck_p (nI_ix (by omega) (by decide)), ck_p (mK_term M), ck_p (nI_ix (by omega) (by decide)), bd_e, nI_1, bd_e]
    show _ = K y l1 (nI e) (nI (i + 1)) (sI h (y + 23) e (if hI h (y + 24) e = 0 then u else hI h (y + 23) e * u))
    rw [if_neg c]
end WRS
