/-! The reference works a law. -/
def P25 (y z : Nat) : Prop := y + 17 ≤ z ∧ z ≤ y + 25
def wfh (y : Nat) (h : PH) : WF := fun r j => hI h (y + r) j
section WRK
variable {N y d : Nat} {h h' : PH}
theorem wfh_sI {r k : Nat} {v : Int32} : wfh y (sI h (y + r) k v) = up2 (wfh y h) r k v := by
  funext r' j
  show hI (sI h (y + r) k v) (y + r') j = _
  by_cases e : r' = r
  · subst e
    rw [hI_sI_eq, up2_row]
    rfl
  · rw [hI_sI_ne (by omega), up2_a _ _ _ e]
    rfl
theorem exR {r k : Nat} {v : Int32} (hr : 17 ≤ r ∧ r ≤ 25) : Ex (P25 y) h (sI h (y + r) k v) := Ex.sI ⟨by omega, by omega⟩
theorem wk_opens  (M : MD h y) (hd : d ≤ 5) : f_X11_opens N y (nI d) h = some ((), (sI (sI (sI (sI (sI h (y + 18) d 0) (y + 20) d 0) (y + 21) d 0) (y + 22) d 20) (y + 24) d 0)) ∧ wfh y (sI (sI (sI (sI (sI h (y + 18) d 0) (y + 20) d 0) (y + 21) d 0) (y + 22) d 20) (y + 24) d 0) = wOp (wfh y h) d ∧ Ex (P25 y) h (sI (sI (sI (sI (sI h (y + 18) d 0) (y + 20) d 0) (y + 21) d 0) (y + 22) d 20) (y + 24) d 0) := by
  have M1 : MD (sI h (y + 18) d 0) y := M.sm Sm.sI
  have M2 : MD (sI (sI h (y + 18) d 0) (y + 20) d 0) y := M1.sm Sm.sI
  have M3 : MD (sI (sI (sI h (y + 18) d 0) (y + 20) d 0) (y + 21) d 0) y := M2.sm Sm.sI
  have M4 : MD (sI (sI (sI (sI h (y + 18) d 0) (y + 20) d 0) (y + 21) d 0) (y + 22) d 20) y := M3.sm Sm.sI
  have M5 : MD (sI (sI (sI (sI (sI h (y + 18) d 0) (y + 20) d 0) (y + 21) d 0) (y + 22) d 20) (y + 24) d 0) y := M4.sm Sm.sI
  refine ⟨?_, ?_, ((((exR (by decide)).trans (exR (by decide))).trans (exR (by decide))).trans (exR (by decide))).trans (exR (by decide))⟩
  · unfold f_X11_opens
    rw [ck_p M.1, mR_keptBy M, rq_s, ck_p (mK_keptBy M), mN_keptBy M, ck_p (nI_ix (by omega) (by decide)), ix_nI (by omega), bd_e, ck_p M1.1, mR_against M1, rq_s, ck_p (mK_against M1), mN_against M1, ck_p (nI_ix (by omega) (by decide)), bd_e, ck_p M2.1, mR_sum M2, rq_s, ck_p (mK_sum M2), mN_sum M2, ck_p (nI_ix (by omega) (by decide)), bd_e, ck_p M3.1, mR_sumBy M3, rq_s, ck_p (mK_sumBy M3), mN_sumBy M3, ck_p (nI_ix (by omega) (by decide)), bd_e, ck_p M4.1, mR_termBy M4, rq_s, ck_p (mK_termBy M4), mN_termBy M4, ck_p (nI_ix (by omega) (by decide)), bd_e]
  · rw [wfh_sI, wfh_sI, wfh_sI, wfh_sI, wfh_sI]
    rfl

theorem wk_45 {s : Int32} (M : MD h y) (hd : d ≤ 5) : f_X11_sums_45 N s (nI d) (y + 21) y (nI d) h = some ((), (sI (sI h (y + 21) d s) (y + 24) d 0)) ∧ wfh y (sI (sI h (y + 21) d s) (y + 24) d 0) = up2 (up2 (wfh y h) 21 d s) 24 d 0 ∧ Ex (P25 y) h (sI (sI h (y + 21) d s) (y + 24) d 0) := by
  have M1 : MD (sI h (y + 21) d s) y := M.sm Sm.sI
  have M2 : MD (sI (sI h (y + 21) d s) (y + 24) d 0) y := M1.sm Sm.sI
  refine ⟨?_, by rw [wfh_sI, wfh_sI], (exR (by decide)).trans (exR (by decide))⟩
  unfold f_X11_sums_45
  rw [ck_p (mK_sum M), mN_sum M, ck_p (nI_ix (by omega) (by decide)), ix_nI (by omega), bd_e, ck_p M1.1, mR_termBy M1, rq_s, ck_p (mK_termBy M1), mN_termBy M1, ck_p (nI_ix (by omega) (by decide)), bd_e]

theorem wk_sums (M : MD h y) (hd : d ≤ 5) : ∃ h', f_X11_sums N y (nI d) h = some ((), h') ∧ wfh y h' = wSm (wfh y h) d ∧ Ex (P25 y) h h' := by
  have key : f_X11_sums N y (nI d) h = f_X11_sums_45 N (wSv (wfh y h) d) (nI d) (y + 21) y (nI d) h := by
    unfold f_X11_sums wSv
    rw [ck_p M.1, mR_sum M, rq_s, mR_sumBy M, rq_s, ck_p (mK_sumBy M), mN_sumBy M, ck_p (nI_ix (by omega) (by decide)), ix_nI (by omega)]
    by_cases c : hI h (y + 22) d = 21
    · rw [if_pos c, if_pos (show wfh y h 22 d = 21 from c), rq_s, ck_p (mK_sum M), mN_sum M, ck_p (nI_ix (by omega) (by decide)), mR_term M, rq_s, ck_p (mK_term M), mN_term M, ck_p (nI_ix (by omega) (by decide))]
      rfl
    · rw [if_neg c, if_neg (show ¬ wfh y h 22 d = 21 from c), rq_s, ck_p (mK_sum M), mN_sum M, ck_p (nI_ix (by omega) (by decide)), mR_term M, rq_s, ck_p (mK_term M), mN_term M, ck_p (nI_ix (by omega) (by decide))]
      rfl
  rw [key]
  exact ⟨_, wk_45 M hd⟩
theorem wk_136 {t : Int32} (M : MD h y) (hd : d ≤ 5) : f_X11_tests_136 N y (nI d) t h = some ((), (sI (sI (sI (sI h (y + 17) d t) (y + 20) d 0) (y + 21) d 0) (y + 22) d 20)) ∧ wfh y (sI (sI (sI (sI h (y + 17) d t) (y + 20) d 0) (y + 21) d 0) (y + 22) d 20) = up2 (up2 (up2 (up2 (wfh y h) 17 d t) 20 d 0) 21 d 0) 22 d 20 ∧ Ex (P25 y) h (sI (sI (sI (sI h (y + 17) d t) (y + 20) d 0) (y + 21) d 0) (y + 22) d 20) := by
  have M1 : MD (sI h (y + 17) d t) y := M.sm Sm.sI
  have M2 : MD (sI (sI h (y + 17) d t) (y + 20) d 0) y := M1.sm Sm.sI
  have M3 : MD (sI (sI (sI h (y + 17) d t) (y + 20) d 0) (y + 21) d 0) y := M2.sm Sm.sI
  have M4 : MD (sI (sI (sI (sI h (y + 17) d t) (y + 20) d 0) (y + 21) d 0) (y + 22) d 20) y := M3.sm Sm.sI
  refine ⟨?_, by rw [wfh_sI, wfh_sI, wfh_sI, wfh_sI], (((exR (by decide)).trans (exR (by decide))).trans (exR (by decide))).trans (exR (by decide))⟩
  unfold f_X11_tests_136
  rw [ck_p M.1, mR_kept M, rq_s, ck_p (mK_kept M), mN_kept M, ck_p (nI_ix (by omega) (by decide)), ix_nI (by omega), bd_e, ck_p M1.1, mR_against M1, rq_s, ck_p (mK_against M1), mN_against M1, ck_p (nI_ix (by omega) (by decide)), bd_e, ck_p M2.1, mR_sum M2, rq_s, ck_p (mK_sum M2), mN_sum M2, ck_p (nI_ix (by omega) (by decide)), bd_e, ck_p M3.1, mR_sumBy M3, rq_s, ck_p (mK_sumBy M3), mN_sumBy M3, ck_p (nI_ix (by omega) (by decide)), bd_e]

/-- kept by and: what is kept and t; by or: what is kept or t -/
theorem wk_106 {t : Int32} (M : MD h y) (hd : d ≤ 5) : f_X11_tests_106 N y (nI d) t h = f_X11_tests_136 N y (nI d) (if hI h (y + 18) d = 27 then (if hI h (y + 17) d = 0 then (if t = 0 then 0 else 1) else 1) else t) h := by
  unfold f_X11_tests_106 f_X11_tests_130 f_X11_tests_135
  rw [ck_p M.1, mR_keptBy M, rq_s, ck_p (mK_keptBy M), mN_keptBy M, ck_p (nI_ix (by omega) (by decide)), ix_nI (by omega)]
  by_cases c : hI h (y + 18) d = 27
  rotate_left
  · rw [if_neg c, if_neg c]
  rw [if_pos c, if_pos c, mR_kept M, rq_s, ck_p (mK_kept M), mN_kept M, ck_p (nI_ix (by omega) (by decide))]
  by_cases c2 : hI h (y + 17) d = 0
  rotate_left
  · rw [if_neg c2, if_neg c2]
  rw [if_pos c2, if_pos c2]
  by_cases c3 : t = 0
  · rw [if_pos c3, if_pos c3]
  · rw [if_neg c3, if_neg c3]
theorem wk_76 {t : Int32} (M : MD h y) (hd : d ≤ 5) : f_X11_tests_76 N y (nI d) t h = f_X11_tests_136 N y (nI d) (wKv (wfh y h) d t) h := by
  unfold f_X11_tests_76 f_X11_tests_104 f_X11_tests_105 wKv
  rw [ck_p M.1, mR_keptBy M, rq_s, ck_p (mK_keptBy M), mN_keptBy M, ck_p (nI_ix (by omega) (by decide)), ix_nI (by omega)]
  by_cases c : hI h (y + 18) d = 26
  rotate_left
  · rw [if_neg c, if_neg (show ¬ wfh y h 18 d = 26 from c), wk_106 M hd]
    rfl
  have c27 : ¬ hI h (y + 18) d = 27 := by rw [c]; decide
  rw [if_pos c, if_pos (show wfh y h 18 d = 26 from c), mR_kept M, rq_s, ck_p (mK_kept M), mN_kept M, ck_p (nI_ix (by omega) (by decide))]
  by_cases c2 : hI h (y + 17) d = 0
  · rw [if_pos c2, if_pos (show wfh y h 17 d = 0 from c2), wk_106 M hd, if_neg c27]
  rw [if_neg c2, if_neg (show ¬ wfh y h 17 d = 0 from c2)]
  by_cases c3 : t = 0
  · rw [if_pos c3, if_pos c3, wk_106 M hd, if_neg c27]
  · rw [if_neg c3, if_neg c3, wk_106 M hd, if_neg c27]
end WRK
