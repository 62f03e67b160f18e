/-! The reference works a law: code by code. -/
section WRC
variable {N y d i ln : Nat} {h h' : PH} {l1 : Int32}
theorem wk_46 {c : Nat} {u : Int32} (hc : (c = 30 ∧ u = 1) ∨ (c = 28 ∧ u = 0)) (M : MD h y) (hd : d + 1 ≤ 5) : ∃ h', (∀ K, f_X11_worked_46 N K y l1 (nI d) (nI i) (nI c) h = K y l1 (nI (d + 1)) (nI (i + 1)) h') ∧ wfh y h' = wOp (up2 (wfh y h) 25 (d + 1) u) (d + 1) ∧ Ex (P25 y) h h' := by
  have Mg : MD (sI h (y + 25) (d + 1) u) y := M.sm Sm.sI
  obtain ⟨h1, a1, a2, a3⟩ : ∃ h1, f_X11_opens N y (nI (d + 1)) (sI h (y + 25) (d + 1) u) = some ((), h1) ∧ wfh y h1 = wOp (wfh y (sI h (y + 25) (d + 1) u)) (d + 1) ∧ Ex (P25 y) (sI h (y + 25) (d + 1) u) h1 := ⟨_, wk_opens Mg hd⟩
  refine ⟨h1, fun K => ?_, by rw [a2, wfh_sI], (exR (by decide)).trans a3⟩
  unfold f_X11_worked_46 f_X11_worked_66 f_X11_worked_329
  rw [nI_1, bd_e, ck_p M.1, mR_byNot M, rq_s]
  rcases hc with ⟨rfl, rfl⟩ | ⟨rfl, rfl⟩
  · rw [if_pos (show nI 30 = 30 from rfl), ck_p (mK_byNot M), mN_byNot M, ck_p (nI_ix (by omega) (by decide)), ix_nI (by omega), bd_e, ck_p Mg.1, a1, cl_s, nI_1, bd_e]
  · rw [if_neg (show ¬ nI 28 = 30 by decide), ck_p (mK_byNot M), mN_byNot M, ck_p (nI_ix (by omega) (by decide)), ix_nI (by omega), bd_e, ck_p Mg.1, a1, cl_s, nI_1, bd_e]
theorem wk_89 {v : Int32} (M : MD h y) (hd : d ≤ 5) : ∃ h', (∀ K, f_X11_worked_89 N K y l1 (nI d) (nI i) v h = K y l1 (nI d) (nI (i + 1)) h') ∧ wfh y h' = up2 (wSm (wfh y h) d) 22 d v ∧ Ex (P25 y) h h' := by
  obtain ⟨g, a1, a2, a3⟩ := wk_sums (N := N) M hd
  have Mg := M.sm a3.1
  refine ⟨sI g (y + 22) d v, fun K => ?_, by rw [wfh_sI, a2], a3.trans (exR (by decide))⟩
  unfold f_X11_worked_89 f_X11_worked_329
  rw [ck_p M.1, a1, cl_s, ck_p Mg.1, mR_sumBy Mg, rq_s, ck_p (mK_sumBy Mg), mN_sumBy Mg, ck_p (nI_ix (by omega) (by decide)), ix_nI (by omega), bd_e, nI_1, bd_e]
theorem wk_194 {v : Int32} (M : MD h y) (hd : d ≤ 5) : ∃ h', (∀ K, f_X11_worked_194 N K y l1 (nI d) (nI i) v h = K y l1 (nI d) (nI (i + 1)) h') ∧ wfh y h' = up2 (wTs (wfh y h) d) 18 d v ∧ Ex (P25 y) h h' := by
  obtain ⟨g, a1, a2, a3, -⟩ := wk_tests (N := N) M hd
  have Mg := M.sm a3.1
  refine ⟨sI g (y + 18) d v, fun K => ?_, by rw [wfh_sI, a2], a3.trans (exR (by decide))⟩
  unfold f_X11_worked_194 f_X11_worked_329
  rw [ck_p M.1, a1, cl_s, ck_p Mg.1, mR_keptBy Mg, rq_s, ck_p (mK_keptBy Mg), mN_keptBy Mg, ck_p (nI_ix (by omega) (by decide)), ix_nI (by omega), bd_e, nI_1, bd_e]
theorem wk_137 {v : Int32} (M : MD h y) (hd : d ≤ 5) : ∃ h', (∀ K, f_X11_worked_137 N K y l1 (nI d) (nI i) v h = K y l1 (nI d) (nI (i + 1)) h') ∧ wfh y h' = up2 (up2 (up2 (up2 (wSm (wfh y h) d) 19 d (wSv (wfh y h) d)) 20 d v) 21 d 0) 22 d 20 ∧ Ex (P25 y) h h' := by
  obtain ⟨g, a1, a2, a3⟩ := wk_sums (N := N) M hd
  have Mg := M.sm a3.1
  have e21 : hI g (y + 21) d = wSv (wfh y h) d := by
    show wfh y g 21 d = _
    rw [a2, sm_21]
  have M1 : MD (sI g (y + 19) d (wSv (wfh y h) d)) y := Mg.sm Sm.sI
  have M2 : MD (sI (sI g (y + 19) d (wSv (wfh y h) d)) (y + 20) d v) y := M1.sm Sm.sI
  have M3 : MD (sI (sI (sI g (y + 19) d (wSv (wfh y h) d)) (y + 20) d v) (y + 21) d 0) y := M2.sm Sm.sI
  refine ⟨sI (sI (sI (sI g (y + 19) d (wSv (wfh y h) d)) (y + 20) d v) (y + 21) d 0) (y + 22) d 20, fun K => ?_, by rw [wfh_sI, wfh_sI, wfh_sI, wfh_sI, a2], (((a3.trans (exR (by decide))).trans (exR (by decide))).trans (exR (by decide))).trans (exR (by decide))⟩
  unfold f_X11_worked_137 f_X11_worked_329
  rw [ck_p M.1, a1, cl_s, ck_p Mg.1, mR_ahead Mg, rq_s, mR_sum Mg, rq_s, ck_p (mK_sum Mg), mN_sum Mg, ck_p (nI_ix (by omega) (by decide)), ck_p (mK_ahead Mg), mN_ahead Mg, ck_p (nI_ix (by omega) (by decide)), ix_nI (by omega), e21, bd_e, ck_p M1.1, mR_against M1, rq_s, ck_p (mK_against M1), mN_against M1, ck_p (nI_ix (by omega) (by decide)), bd_e, ck_p M2.1, mR_sum M2, rq_s, ck_p (mK_sum M2), mN_sum M2, ck_p (nI_ix (by omega) (by decide)), bd_e, ck_p M3.1, mR_sumBy M3, rq_s, ck_p (mK_sumBy M3), mN_sumBy M3, ck_p (nI_ix (by omega) (by decide)), bd_e, nI_1, bd_e]
/-- one code -/
theorem wk_step {c t0 : Nat} (hN : 2000 ≤ N) (M : MD h y) (hd : d ≤ 5) (hc : cOk d c) (h5 : (dSp (d, wfh y h 25) c).1 ≤ 5) (hl : ln < 4) (e13 : hI h (y + 13) ln = nI t0) (ht : i < t0) (ht0 : t0 ≤ 2000) (e14 : hI h (y + 14) i = nI c) : ∃ h', (∀ n, f_X11_worked_14 N (n + 1) y (nI ln) (nI d) (nI i) h = f_X11_worked_14 N n y (nI ln) (nI (wSt (fun k => hI h (y + 26) k) (d, wfh y h) c).1) (nI (i + 1)) h') ∧ wfh y h' = (wSt (fun k => hI h (y + 26) k) (d, wfh y h) c).2 ∧ Ex (P25 y) h h' := by
  obtain ⟨hc, h29⟩ := hc
  have c1 : c < 10100 := by omega
  have pre : ∀ K, f_X11_worked_14_b N K y (nI ln) (nI d) (nI i) h = if nI c = (28 : Int32) then f_X11_worked_46 N K y (nI ln) (nI d) (nI i) (nI c) h else if nI c = (30 : Int32) then f_X11_worked_46 N K y (nI ln) (nI d) (nI i) (nI c) h else if nI c = (20 : Int32) then f_X11_worked_89 N K y (nI ln) (nI d) (nI i) (nI c) h else if nI c = (21 : Int32) then f_X11_worked_89 N K y (nI ln) (nI d) (nI i) (nI c) h else if nI c = (22 : Int32) then f_X11_worked_329 N K y (nI ln) (nI d) (nI i) (sI h (y + 24) d (nI c)) else if nI c = (24 : Int32) then f_X11_worked_137 N K y (nI ln) (nI d) (nI i) (nI c) h else if nI c = (25 : Int32) then f_X11_worked_137 N K y (nI ln) (nI d) (nI i) (nI c) h else if nI c = (26 : Int32) then f_X11_worked_194 N K y (nI ln) (nI d) (nI i) (nI c) h else if nI c = (27 : Int32) then f_X11_worked_194 N K y (nI ln) (nI d) (nI i) (nI c) h else if nI c < (100 : Int32) then (if (20 : Int32) ≤ nI c then f_X11_worked_243 N K (0 : Int32) y (nI ln) (nI d) (nI i) (nI c) h else ck (inb (nI c) 20) <| f_X11_worked_243 N K (hI h (y + 26) (ix (nI c))) y (nI ln) (nI d) (nI i) (nI c) h) else f_X11_worked_243 N K (nI c - (100 : Int32)) y (nI ln) (nI d) (nI i) (nI c) h := fun K => by
    unfold f_X11_worked_14_b
    rw [ck_p M.1, mR_lineTo M, rq_s, ck_p (mK_lineTo M), mN_lineTo M, ck_p (nI_ix hl (by decide)), ix_nI (show ln < 2 ^ 31 by omega), e13, if_neg (fun z => by have := (nI_leI (by omega) (by omega)).mp z; omega), mR_codes M, rq_s, ck_p (mK_codes M), mN_codes M, ck_p (nI_ix (show i < 2000 by omega) (by decide)), ix_nI (show i < 2 ^ 31 by omega), e14, bd_e, mR_termBy M, rq_s, ck_p (mK_termBy M), mN_termBy M, ck_p (nI_ix (show d < 7 by omega) (by decide)), ix_nI (show d < 2 ^ 31 by omega), bd_e, mR_valueOf M, rq_s, ck_p (mK_valueOf M), mN_valueOf M]
  have st : ∀ n, f_X11_worked_14 N (n + 1) y (nI ln) (nI d) (nI i) h = f_X11_worked_14_b N (f_X11_worked_14 N n) y (nI ln) (nI d) (nI i) h := fun n => rfl
  have val : ∀ v : Int32, c ≠ 29 → (∀ K, f_X11_worked_14_b N K y (nI ln) (nI d) (nI i) h = f_X11_worked_243 N K v y (nI ln) (nI d) (nI i) (nI c) h) → wSt (fun k => hI h (y + 26) k) (d, wfh y h) c = wFin (wfh y h) d v → ∃ h', (∀ n, f_X11_worked_14 N (n + 1) y (nI ln) (nI d) (nI i) h = f_X11_worked_14 N n y (nI ln) (nI (wSt (fun k => hI h (y + 26) k) (d, wfh y h) c).1) (nI (i + 1)) h') ∧ wfh y h' = (wSt (fun k => hI h (y + 26) k) (d, wfh y h) c).2 ∧ Ex (P25 y) h h' := fun v hn hv e => by
    obtain ⟨h', a1, a2, a3⟩ := wk_fin (l1 := nI ln) (i := i) (v := v) M hd hN
    refine ⟨h', fun n => ?_, by rw [e]; exact a2, a3⟩
    rw [st, hv, e]
    unfold f_X11_worked_243
    rw [if_neg (show ¬ nI c = (29 : Int32) from fun z => hn ((nI_eq (b := 29) (by omega) (by decide)).mp z))]
    exact a1 _
  have ne : ∀ k : Nat, k < 2 ^ 31 → c ≠ k → ¬ nI c = nI k := fun k hk n z => n ((nI_eq (by omega) hk).mp z)
  have skip : (c < 20 ∨ 100 ≤ c) → ∀ K, f_X11_worked_14_b N K y (nI ln) (nI d) (nI i) h = if nI c < (100 : Int32) then (if (20 : Int32) ≤ nI c then f_X11_worked_243 N K (0 : Int32) y (nI ln) (nI d) (nI i) (nI c) h else ck (inb (nI c) 20) <| f_X11_worked_243 N K (hI h (y + 26) (ix (nI c))) y (nI ln) (nI d) (nI i) (nI c) h) else f_X11_worked_243 N K (nI c - (100 : Int32)) y (nI ln) (nI d) (nI i) (nI c) h := fun hh K => by
    rw [pre K, if_neg (show ¬ nI c = (28 : Int32) from ne 28 (by decide) (by omega)), if_neg (show ¬ nI c = (30 : Int32) from ne 30 (by decide) (by omega)), if_neg (show ¬ nI c = (20 : Int32) from ne 20 (by decide) (by omega)), if_neg (show ¬ nI c = (21 : Int32) from ne 21 (by decide) (by omega)), if_neg (show ¬ nI c = (22 : Int32) from ne 22 (by decide) (by omega)), if_neg (show ¬ nI c = (24 : Int32) from ne 24 (by decide) (by omega)), if_neg (show ¬ nI c = (25 : Int32) from ne 25 (by decide) (by omega)), if_neg (show ¬ nI c = (26 : Int32) from ne 26 (by decide) (by omega)), if_neg (show ¬ nI c = (27 : Int32) from ne 27 (by decide) (by omega))]
  have wel : (c < 20 ∨ 100 ≤ c) → wSt (fun k => hI h (y + 26) k) (d, wfh y h) c = if 100 ≤ c then wFin (wfh y h) d (nI (c - 100)) else wFin (wfh y h) d (hI h (y + 26) c) := fun hh => by
    unfold wSt
    rw [if_neg (by omega), if_neg (by omega), if_neg (by omega), if_neg (by omega), if_neg (by omega), if_neg (by omega), if_neg (by omega)]
  rcases hc with hc | hc | hc
  · refine val (hI h (y + 26) c) (by omega) (fun K => ?_) (by rw [wel (Or.inl hc), if_neg (by omega)])
    rw [skip (Or.inl hc), if_pos (show nI c < (100 : Int32) from (nI_ltI (b := 100) (by omega) (by decide)).mpr (by omega)), if_neg (show ¬ (20 : Int32) ≤ nI c from fun z => by have := (nI_leI (a := 20) (by decide) (by omega)).mp z; omega), ck_p (nI_ix hc (by decide)), ix_nI (by omega)]
  · rcases (show c = 20 ∨ c = 21 ∨ c = 22 ∨ c = 24 ∨ c = 25 ∨ c = 26 ∨ c = 27 ∨ c = 28 ∨ c = 29 ∨ c = 30 by omega) with rfl | rfl | rfl | rfl | rfl | rfl | rfl | rfl | rfl | rfl
    · obtain ⟨h', a1, a2⟩ := wk_89 (N := N) (l1 := nI ln) (i := i) (v := nI 20) M hd
      exact ⟨h', fun n => by rw [st, pre]; exact a1 _, a2⟩
    · obtain ⟨h', a1, a2⟩ := wk_89 (N := N) (l1 := nI ln) (i := i) (v := nI 21) M hd
      exact ⟨h', fun n => by rw [st, pre]; exact a1 _, a2⟩
    · exact ⟨sI h (y + 24) d (nI 22), fun n => by rw [st, pre]; show f_X11_worked_329 N _ y (nI ln) (nI d) (nI i) (sI h (y + 24) d (nI 22)) = _; unfold f_X11_worked_329; rw [nI_1, bd_e]; rfl, wfh_sI, exR (by decide)⟩
    · obtain ⟨h', a1, a2⟩ := wk_137 (N := N) (l1 := nI ln) (i := i) (v := nI 24) M hd
      exact ⟨h', fun n => by rw [st, pre]; exact a1 _, a2⟩
    · obtain ⟨h', a1, a2⟩ := wk_137 (N := N) (l1 := nI ln) (i := i) (v := nI 25) M hd
      exact ⟨h', fun n => by rw [st, pre]; exact a1 _, a2⟩
    · obtain ⟨h', a1, a2⟩ := wk_194 (N := N) (l1 := nI ln) (i := i) (v := nI 26) M hd
      exact ⟨h', fun n => by rw [st, pre]; exact a1 _, a2⟩
    · obtain ⟨h', a1, a2⟩ := wk_194 (N := N) (l1 := nI ln) (i := i) (v := nI 27) M hd
      exact ⟨h', fun n => by rw [st, pre]; exact a1 _, a2⟩
    · obtain ⟨h', a1, a2⟩ := wk_46 (N := N) (l1 := nI ln) (i := i) (Or.inr ⟨rfl, rfl⟩) M (show d + 1 ≤ 5 from h5)
      exact ⟨h', fun n => by rw [st, pre]; exact a1 _, a2⟩
    · obtain ⟨g, a1, a2, a3, a4⟩ := wk_tests (N := N) M hd
      have Mg := M.sm a3.1
      have d1 := h29 rfl
      obtain ⟨e, rfl⟩ : ∃ e, d = e + 1 := ⟨d - 1, by omega⟩
      obtain ⟨h', b1, b2, b3⟩ := wk_fin (l1 := nI ln) (i := i) (d := e) (v := hI g (y + 17) (e + 1)) Mg (by omega) hN
      have es : wSt (fun k => hI h (y + 26) k) (e + 1, wfh y h) 29 = wFin (wTs (wfh y h) (e + 1)) e (wKv (wfh y h) (e + 1) (wTv (wfh y h) (e + 1) (wSv (wfh y h) (e + 1)))) := rfl
      rw [a2, a4] at b1 b2
      refine ⟨h', fun n => ?_, by rw [es]; exact b2, a3.trans b3⟩
      rw [st, pre, es]
      show f_X11_worked_243 N _ 0 y (nI ln) (nI (e + 1)) (nI i) (nI 29) h = _
      unfold f_X11_worked_243
      rw [if_pos (show nI 29 = 29 from rfl), ck_p M.1, a1, cl_s, ck_p Mg.1, mR_kept Mg, rq_s, ck_p (mK_kept Mg), mN_kept Mg, ck_p (nI_ix (show e + 1 < 7 by omega) (by decide)), ix_nI (show e + 1 < 2 ^ 31 by omega), bd_e, nI_p, bd_e, a4]
      exact b1 _
    · obtain ⟨h', a1, a2⟩ := wk_46 (N := N) (l1 := nI ln) (i := i) (Or.inl ⟨rfl, rfl⟩) M (show d + 1 ≤ 5 from h5)
      exact ⟨h', fun n => by rw [st, pre]; exact a1 _, a2⟩
  · refine val (nI (c - 100)) (by omega) (fun K => ?_) (by rw [wel (Or.inr hc.1), if_pos hc.1])
    rw [skip (Or.inr hc.1), if_neg (show ¬ nI c < (100 : Int32) from fun z => by have := (nI_ltI (b := 100) (by omega) (by decide)).mp z; omega), show (100 : Int32) = nI 100 from rfl, pk_sub hc.1]
end WRC
