/-! Duties: count, flue, mark. -/
section DX
variable {N x y o J : Nat}
theorem d_count (hN2 : 2000 ≤ N) (hJ : J < 512) : D_count (INV N x y o J) (INV N x y o (J + 1)) N x y := by
  intro a h ⟨v, w, A, M, pn, pc, P, lb, K, tn, tb, q⟩
  obtain ⟨p0, ob, pv, pm, pnm, ⟨cM, rS, rD, rR, wM⟩, pP, pK, pT⟩ := id q
  have hW := pv.2.2.1
  have hJ2 := wM.1.1
  have q2 := q.thr 0
  obtain ⟨-, -, -, pm2, -, ⟨-, rS2, rD2, rR2, -⟩, pP2, -, pT2⟩ := id q2
  have m2 := pm2.1
  obtain ⟨r, e1, e2⟩ : ∃ r, f_X10_count N x a h = some (r, h) ∧ f_X11_count N y a h = some (r, sI h y 0 0) := by
    have big : (∀ k, 5 ≤ k → k ≤ 13 → a ≠ nI k) → (a < 0 ∨ (4 : Int32) < a) → f_X10_count N x a h = some (-1, h) := by
      intro hn hc
      have c19 : f_X10_count_19 N x a h = some (-1, h) := by
        unfold f_X10_count_19
        rw [if_neg (show ¬ a = 5 from hn 5 (by decide) (by decide)), if_neg (show ¬ a = 6 from hn 6 (by decide) (by decide)), if_neg (show ¬ a = 7 from hn 7 (by decide) (by decide)), if_neg (show ¬ a = 8 from hn 8 (by decide) (by decide)), if_neg (show ¬ a = 9 from hn 9 (by decide) (by decide)), if_neg (show ¬ a = 10 from hn 10 (by decide) (by decide)), if_neg (show ¬ a = 11 from hn 11 (by decide) (by decide)), if_neg (show ¬ a = 12 from hn 12 (by decide) (by decide)), if_neg (show ¬ a = 13 from hn 13 (by decide) (by decide))]
      unfold f_X10_count
      by_cases n : a < 0
      · rw [if_pos n]; exact c19
      · rw [if_neg n, if_pos (hc.resolve_left n)]; exact c19
    by_cases n : a < 0
    · refine ⟨-1, big (fun k h1 h2 z => nI_pos (n := k) (by omega) (z ▸ n)) (Or.inl n), ?_⟩
      unfold f_X11_count
      rw [ck_p pm.1.1, bd_e, m_within, cl_s, yesF (fun z => z.1 n), if_pos rfl]
    obtain ⟨k, hk, rfl⟩ := nI_of n
    by_cases k14 : 14 ≤ k
    · refine ⟨-1, big (fun j h1 h2 z => by have := (nI_eq hk (by omega)).mp z; omega) (Or.inr (nI_lt (a := 4) (by omega) hk)), ?_⟩
      unfold f_X11_count
      rw [ck_p pm.1.1, bd_e, m_within, cl_s, yesF (fun z => z.2 (nI_lt (a := 13) (by omega) hk)), if_pos rfl]
    by_cases k5 : k < 5
    · refine ⟨nI (aC A k), ?_, ?_⟩
      · unfold f_X10_count
        rw [if_neg n, if_neg (show ¬ (4 : Int32) < nI k from nI_nlt (b := k) (a := 4) (by omega) (by decide)), ck_p ob.k9, ob.R8, rq_s, ck_p pv.1.1, vR_many pv.1, rq_s, ck_p (vK_many pv.1), vN_many pv.1, ck_p (nI_ix k5 (by decide)), ix_nI hk, pv.2.1.1 k k5]
      · unfold f_X11_count
        rw [ck_p pm.1.1, bd_e, m_within, cl_s, yesT ⟨n, nI_nlt (a := 13) (by omega) (by decide)⟩, if_neg one0, if_neg (show ¬ (5 : Int32) ≤ nI k from nI_ge (b := 5) k5 (by decide)), ck_p m2.1, mR_valley m2, rq_s, ck_p (mK_valley m2), mN_valley m2, ck_p (nI_ix (by omega) (by decide)), ix_nI hk, pm2.2.1.1 k (by omega)]
    have hs : k = 5 ∨ k = 6 ∨ k = 7 ∨ k = 8 ∨ k = 9 ∨ k = 10 ∨ k = 11 ∨ k = 12 ∨ k = 13 := by omega
    have g0 : hI (sI h y 0 0) (y + 37) 0 = nI (tH M.1) := rS2.1
    rcases hs with rfl | rfl | rfl | rfl | rfl | rfl | rfl | rfl | rfl
    · refine ⟨nI (tH M.1), ?_, ?_⟩
      · unfold f_X10_count f_X10_count_19
        rw [if_neg n, if_pos (show (4 : Int32) < nI 5 by decide), if_pos (show nI 5 = (5 : Int32) by decide), ck_p ob.k9, ob.R1, rq_s, ck_p ob.mt.1, ob.mt.2.1.1, rq_s, ck_p ob.st.1, cM.1.1]
      · unfold f_X11_count
        rw [ck_p pm.1.1, bd_e, m_within, cl_s, yesT (by decide), if_neg one0, if_pos (show (5 : Int32) ≤ nI 5 by decide), if_neg (show ¬ ((8 : Int32) ≤ nI 5) by decide), if_pos (show nI 5 = (5 : Int32) by decide), ck_p m2.1, mR_s m2, rq_s, ck_p (mK_s m2), mN_s m2, ck_p (by decide), g0]
    · refine ⟨nI (aWind A (tH M.1)), ?_, ?_⟩
      · unfold f_X10_count f_X10_count_19
        rw [if_neg n, if_pos (show (4 : Int32) < nI 6 by decide), if_neg (show ¬ (nI 6 = (5 : Int32)) by decide), if_pos (show nI 6 = (6 : Int32) by decide), ck_p ob.k9, ob.R8, rq_s, ob.R1, rq_s, ck_p ob.mt.1, ob.mt.2.1.1, rq_s, ck_p ob.st.1, ck_p pv.1.1, cM.1.1, c_windAt pv.1 pv.2.1 hW (by omega), cl_s]
      · unfold f_X11_count
        rw [ck_p pm.1.1, bd_e, m_within, cl_s, yesT (by decide), if_neg one0, if_pos (show (5 : Int32) ≤ nI 6 by decide), if_neg (show ¬ ((8 : Int32) ≤ nI 6) by decide), if_neg (show ¬ (nI 6 = (5 : Int32)) by decide), if_pos (show nI 6 = (6 : Int32) by decide), ck_p m2.1, mR_s m2, rq_s, ck_p (mK_s m2), mN_s m2, ck_p (by decide), g0, m_windIn m2 pm2.2.1 hW (by omega), cl_s]
    · refine ⟨nI (tFires M.1), ?_, ?_⟩
      · unfold f_X10_count f_X10_count_19
        rw [if_neg n, if_pos (show (4 : Int32) < nI 7 by decide), if_neg (show ¬ (nI 7 = (5 : Int32)) by decide), if_neg (show ¬ (nI 7 = (6 : Int32)) by decide), if_pos (show nI 7 = (7 : Int32) by decide), ck_p ob.k9, ob.R1, rq_s, ck_p ob.mt.1, ob.mt.2.1.1, rq_s, ck_p ob.st.1, c_fires (by omega) ob.st cM.1 wM.1, cl_s]
      · unfold f_X11_count
        rw [ck_p pm.1.1, bd_e, m_within, cl_s, yesT (by decide), if_neg one0, if_pos (show (5 : Int32) ≤ nI 7 by decide), if_neg (show ¬ ((8 : Int32) ≤ nI 7) by decide), if_neg (show ¬ (nI 7 = (5 : Int32)) by decide), if_neg (show ¬ (nI 7 = (6 : Int32)) by decide), ck_p m2.1, m_fires (by omega) m2 pm2.2.1 hW rS2 wM.1, cl_s]
    · refine ⟨nI (fb_sm (tT M.1) 20), ?_, ?_⟩
      · unfold f_X10_count f_X10_count_19
        rw [if_neg n, if_pos (show (4 : Int32) < nI 8 by decide), if_neg (show ¬ (nI 8 = (5 : Int32)) by decide), if_neg (show ¬ (nI 8 = (6 : Int32)) by decide), if_neg (show ¬ (nI 8 = (7 : Int32)) by decide), if_pos (show nI 8 = (8 : Int32) by decide), ck_p ob.k9, ob.R1, rq_s, ck_p ob.mt.1, ob.mt.2.1.1, rq_s, ck_p ob.st.1, c_stockOfAll (by omega) ob.st cM.1, cl_s]
      · unfold f_X11_count
        rw [ck_p pm.1.1, bd_e, m_within, cl_s, yesT (by decide), if_neg one0, if_pos (show (5 : Int32) ≤ nI 8 by decide), if_pos (show (8 : Int32) ≤ nI 8 by decide), if_neg (show ¬ ((10 : Int32) ≤ nI 8) by decide), if_pos (show nI 8 = (8 : Int32) by decide), ck_p m2.1, m_stocks (by omega) m2 rS2, cl_s]
    · refine ⟨nI (fb_sm (tS M.1) 3), ?_, ?_⟩
      · unfold f_X10_count f_X10_count_19
        rw [if_neg n, if_pos (show (4 : Int32) < nI 9 by decide), if_neg (show ¬ (nI 9 = (5 : Int32)) by decide), if_neg (show ¬ (nI 9 = (6 : Int32)) by decide), if_neg (show ¬ (nI 9 = (7 : Int32)) by decide), if_neg (show ¬ (nI 9 = (8 : Int32)) by decide), if_pos (show nI 9 = (9 : Int32) by decide), ck_p ob.k9, ob.R1, rq_s, ck_p ob.mt.1, ob.mt.2.1.1, rq_s, ck_p ob.st.1, c_sootOfAll (by omega) ob.st cM.1, cl_s]
      · unfold f_X11_count
        rw [ck_p pm.1.1, bd_e, m_within, cl_s, yesT (by decide), if_neg one0, if_pos (show (5 : Int32) ≤ nI 9 by decide), if_pos (show (8 : Int32) ≤ nI 9 by decide), if_neg (show ¬ ((10 : Int32) ≤ nI 9) by decide), if_neg (show ¬ (nI 9 = (8 : Int32)) by decide), ck_p m2.1, m_sootOfAll m2 rS2, cl_s]
    · refine ⟨nI M.2.1.1, ?_, ?_⟩
      · unfold f_X10_count f_X10_count_19
        rw [if_neg n, if_pos (show (4 : Int32) < nI 10 by decide), if_neg (show ¬ (nI 10 = (5 : Int32)) by decide), if_neg (show ¬ (nI 10 = (6 : Int32)) by decide), if_neg (show ¬ (nI 10 = (7 : Int32)) by decide), if_neg (show ¬ (nI 10 = (8 : Int32)) by decide), if_neg (show ¬ (nI 10 = (9 : Int32)) by decide), if_pos (show nI 10 = (10 : Int32) by decide), ck_p ob.k9, ob.R1, rq_s, ck_p ob.mt.1, ob.mt.2.1.2.1, rq_s, ck_p ob.mt.2.2.2.1.1, cM.2.1.1]
      · unfold f_X11_count
        rw [ck_p pm.1.1, bd_e, m_within, cl_s, yesT (by decide), if_neg one0, if_pos (show (5 : Int32) ≤ nI 10 by decide), if_pos (show (8 : Int32) ≤ nI 10 by decide), if_pos (show (10 : Int32) ≤ nI 10 by decide), if_neg (show ¬ ((12 : Int32) ≤ nI 10) by decide), if_pos (show nI 10 = (10 : Int32) by decide), ck_p m2.1, mR_lines m2, rq_s, ck_p (mK_lines m2), mN_lines m2, ck_p (by decide), rD2.1]
    · refine ⟨nI M.2.2.1, ?_, ?_⟩
      · unfold f_X10_count f_X10_count_19
        rw [if_neg n, if_pos (show (4 : Int32) < nI 11 by decide), if_neg (show ¬ (nI 11 = (5 : Int32)) by decide), if_neg (show ¬ (nI 11 = (6 : Int32)) by decide), if_neg (show ¬ (nI 11 = (7 : Int32)) by decide), if_neg (show ¬ (nI 11 = (8 : Int32)) by decide), if_neg (show ¬ (nI 11 = (9 : Int32)) by decide), if_neg (show ¬ (nI 11 = (10 : Int32)) by decide), if_pos (show nI 11 = (11 : Int32) by decide), ck_p ob.k9, ob.R1, rq_s, ck_p ob.mt.1, cM.2.2.1]
      · unfold f_X11_count
        rw [ck_p pm.1.1, bd_e, m_within, cl_s, yesT (by decide), if_neg one0, if_pos (show (5 : Int32) ≤ nI 11 by decide), if_pos (show (8 : Int32) ≤ nI 11 by decide), if_pos (show (10 : Int32) ≤ nI 11 by decide), if_neg (show ¬ ((12 : Int32) ≤ nI 11) by decide), if_neg (show ¬ (nI 11 = (10 : Int32)) by decide), ck_p m2.1, mR_seens m2, rq_s, ck_p (mK_seens m2), mN_seens m2, ck_p (by decide), rR2.1]
    · refine ⟨nI pc, ?_, ?_⟩
      · unfold f_X10_count f_X10_count_19
        rw [if_neg n, if_pos (show (4 : Int32) < nI 12 by decide), if_neg (show ¬ (nI 12 = (5 : Int32)) by decide), if_neg (show ¬ (nI 12 = (6 : Int32)) by decide), if_neg (show ¬ (nI 12 = (7 : Int32)) by decide), if_neg (show ¬ (nI 12 = (8 : Int32)) by decide), if_neg (show ¬ (nI 12 = (9 : Int32)) by decide), if_neg (show ¬ (nI 12 = (10 : Int32)) by decide), if_neg (show ¬ (nI 12 = (11 : Int32)) by decide), if_pos (show nI 12 = (12 : Int32) by decide), ck_p ob.k9, pP.1.2.2.2.1]
      · unfold f_X11_count
        rw [ck_p pm.1.1, bd_e, m_within, cl_s, yesT (by decide), if_neg one0, if_pos (show (5 : Int32) ≤ nI 12 by decide), if_pos (show (8 : Int32) ≤ nI 12 by decide), if_pos (show (10 : Int32) ≤ nI 12 by decide), if_pos (show (12 : Int32) ≤ nI 12 by decide), if_pos (show nI 12 = (12 : Int32) by decide), ck_p m2.1, pP2.1.2.2.2.2]
    · refine ⟨nI tn, ?_, ?_⟩
      · unfold f_X10_count f_X10_count_19
        rw [if_neg n, if_pos (show (4 : Int32) < nI 13 by decide), if_neg (show ¬ (nI 13 = (5 : Int32)) by decide), if_neg (show ¬ (nI 13 = (6 : Int32)) by decide), if_neg (show ¬ (nI 13 = (7 : Int32)) by decide), if_neg (show ¬ (nI 13 = (8 : Int32)) by decide), if_neg (show ¬ (nI 13 = (9 : Int32)) by decide), if_neg (show ¬ (nI 13 = (10 : Int32)) by decide), if_neg (show ¬ (nI 13 = (11 : Int32)) by decide), if_neg (show ¬ (nI 13 = (12 : Int32)) by decide), if_pos (show nI 13 = (13 : Int32) by decide), ck_p ob.k9, ob.R0, rq_s, ck_p ob.tp.1, pT.2.1]
      · unfold f_X11_count
        rw [ck_p pm.1.1, bd_e, m_within, cl_s, yesT (by decide), if_neg one0, if_pos (show (5 : Int32) ≤ nI 13 by decide), if_pos (show (8 : Int32) ≤ nI 13 by decide), if_pos (show (10 : Int32) ≤ nI 13 by decide), if_pos (show (12 : Int32) ≤ nI 13 by decide), if_neg (show ¬ (nI 13 = (12 : Int32)) by decide), ck_p m2.1, pT2.2.2.1]
  exact wp2 e1 pm.1.1 e2 q2.inv
theorem exM {h h' : PH} {v w : Nat} {A : AV} {M : AM} {pn pc : Nat} {P : Nat → AS} {lb : Nat → Bool} {K : Nat → AM} {tn : Nat} {tb : Nat → Nat} (g : Ex (inM y) h h') (q : INVq N x y o J h v w A M pn pc P lb K tn tb) : INVq N x y o J h' v w A M pn pc P lb K tn tb :=
  q.ex g (fun z hz => by unfold inM at hz; unfold Sc; omega) (by rw [g.2.2.2 y (by unfold inM; omega)]) (by rw [g.2.2.2 y (by unfold inM; omega)])
theorem d_flue (hN2 : 2000 ≤ N) (hJ : J < 512) : D_flue (INV N x y o J) (INV N x y o (J + 1)) N x y := by
  intro a b h ⟨v, w, A, M, pn, pc, P, lb, K, tn, tb, q⟩
  obtain ⟨p0, ob, pv, pm, pnm, ⟨cM, rS, rD, rR, wM⟩, pP, pK, pT⟩ := id q
  have hW := pv.2.2.1
  have h3 := hW.1.2.1
  by_cases c : ¬ a < 0 ∧ ¬ nI (aC A 1) ≤ a
  rotate_left
  · have q2 := q.thr 0
    obtain ⟨-, -, -, pm2, -⟩ := id q2
    refine wp2 (r := -2) (h1 := h) (h2 := sI h y 0 0) ?_ pm.1.1 ?_ q2.inv
    · unfold f_X10_flue
      rw [ck_p ob.k9, ob.R8, rq_s, ck_p pv.1.1, c_has1 pv, cl_s, yesF c, if_pos rfl]
    · unfold f_X11_flue
      rw [ck_p pm.1.1, bd_e, ck_p pm2.1.1, m_isFlue pm2.1 pm2.2.1, cl_s, yesF c, if_pos rfl]
  obtain ⟨f, hf, rfl⟩ := told (by omega) c
  -- with the class's heap h1, which answers r
  have go : ∀ (r : Int32) (h1 : PH), f_X10_flue N x (nI f) b h = some (r, h1) → Gx v h h1 → VA h1 v A → (∀ hh, MA N hh y A → RS (hI hh (y + 37)) 0 M.1 → ∃ h2, (cl (f_X11_within N b (0 : Int32) (4 : Int32) hh) fun r7 h8 => if r7 = 0 then some ((-2 : Int32), h8) else if (2 : Int32) ≤ b then if b = (2 : Int32) then ck (hK h8 y = 10) <| cl (f_X11_smokeOf N y (nI f) (0 : Int32) h8) fun r20 h21 => ck (hK h21 y = 10) <| cl (f_X11_smokeOf N y (nI f) (1 : Int32) h21) fun r23 h24 => ck (hK h24 y = 10) <| cl (f_X11_signOf N y r20 r23 h24) fun r26 h27 => some (r26, h27) else if b = (3 : Int32) then ck (hK h8 y = 10) <| rq (hR h8 y 49) fun a17 => ck (hK h8 a17 = 12) <| ck (inb ((29 : Int32) + (nI f)) (hN h8 a17)) <| some ((hI h8 a17 (ix ((29 : Int32) + (nI f)))), h8) else ck (hK h8 y = 10) <| cl (f_X11_housesOf N y (nI f) h8) fun r13 h14 => some (r13, h14) else ck (hK h8 y = 10) <| cl (f_X11_smokeOf N y (nI f) b h8) fun r29 h30 => some (r29, h30)) = some (r, h2) ∧ Ex (inM y) hh h2) → wp (f_X10_flue N x (nI f) b h) (fun r h1 => hK h1 y = 10 ∧ wp (f_X11_flue N y (nI f) b h1) (fun r2 h2 => r = r2 ∧ INV N x y o (J + 1) h2)) := by
    intro r h1 e1 g hv hr
    have q1 := q.gx g hv
    have q2 := q1.thr 0
    obtain ⟨-, -, -, pm1, -⟩ := id q1
    obtain ⟨-, -, -, pm2, -, ⟨-, rS2, -⟩, -⟩ := id q2
    obtain ⟨h2, e2, g2⟩ := hr _ pm2 rS2
    refine wp2 e1 pm1.1.1 ?_ (exM g2 q2).inv
    unfold f_X11_flue
    rw [ck_p pm1.1.1, bd_e, ck_p pm2.1.1, m_isFlue pm2.1 pm2.2.1, cl_s, yesT c, if_neg one0]
    exact e2
  have cls : f_X10_flue N x (nI f) b h = (if b = 0 then cl (f_X4_smoke N (x + 3 + 1) v (nI (aHs A f)) (0 : Int32) h) fun r17 h18 => some (r17, h18) else if b = 1 then cl (f_X4_smoke N (x + 3 + 1) v (nI (aHs A f)) (1 : Int32) h) fun r25 h26 => some (r25, h26) else if b = 2 then cl (f_X4_signAt N (x + 3 + 1) v (nI f) h) fun r33 h34 => some (r33, h34) else if b = 3 then some (nI (tS M.1 f), h) else if b = 4 then some (nI (aHs A f), h) else some ((-2 : Int32), h)) := by
    unfold f_X10_flue
    rw [ck_p ob.k9, ob.R8, rq_s, ck_p pv.1.1, c_has1 pv, cl_s, yesT c, if_neg one0, ck_p ob.k9, ob.R8, rq_s, ck_p pv.1.1, c_housesAt (by omega) pv.1 pv.2.1 hW (by omega), cl_s, ck_p ob.k9, ob.R1, rq_s, ck_p ob.mt.1, ob.mt.2.1.1, rq_s, ob.R8, rq_s, ck_p ob.st.1, ck_p ob.k9, rq_s, ck_p ob.mt.1, ob.mt.2.1.1, rq_s, rq_s, ck_p ob.st.1, ck_p ob.k9, rq_s, ck_p ob.mt.1, ob.mt.2.1.1, rq_s, rq_s, ck_p ob.st.1, ck_p ob.k9, rq_s, ck_p ob.mt.1, ob.mt.2.1.1, rq_s, ck_p ob.st.1, sR_soot ob.st, rq_s, ck_p (sK_soot ob.st), sN_soot ob.st, ck_p (nI_ix (by omega) (by decide)), ix_nI (by omega), cM.1.2.2.2.2 f (by omega)]
  by_cases b0 : b = 0
  · subst b0
    obtain ⟨h1, r1, r2, r3⟩ := c_smoke hN2 q.dj pv ob.st cM.1 wM.1 (by omega) (aHs_lt hW f) (b := 0) (by decide)
    have r1 : f_X4_smoke N (x + 3 + 1) v (nI (aHs A f)) 0 h = _ := r1
    refine go _ h1 (by rw [cls, if_pos rfl, r1, cl_s]) r2 r3 (fun hh pmh rSh => ?_)
    obtain ⟨h2, s1, s2⟩ := m_smokeOf hN2 pmh rSh wM.1 (by omega) (f := f) (b := 0) (by omega) (by decide)
    have s1 : f_X11_smokeOf N y (nI f) 0 hh = _ := s1
    refine ⟨h2, ?_, s2⟩
    rw [m_within, cl_s, yesT (by decide), if_neg one0, if_neg (by decide), ck_p pmh.1.1, s1, cl_s]
  by_cases b1 : b = 1
  · subst b1
    obtain ⟨h1, r1, r2, r3⟩ := c_smoke hN2 q.dj pv ob.st cM.1 wM.1 (by omega) (aHs_lt hW f) (b := 1) (by decide)
    have r1 : f_X4_smoke N (x + 3 + 1) v (nI (aHs A f)) 1 h = _ := r1
    refine go _ h1 (by rw [cls, if_neg b0, if_pos rfl, r1, cl_s]) r2 r3 (fun hh pmh rSh => ?_)
    obtain ⟨h2, s1, s2⟩ := m_smokeOf hN2 pmh rSh wM.1 (by omega) (f := f) (b := 1) (by omega) (by decide)
    have s1 : f_X11_smokeOf N y (nI f) 1 hh = _ := s1
    refine ⟨h2, ?_, s2⟩
    rw [m_within, cl_s, yesT (by decide), if_neg one0, if_neg (by decide), ck_p pmh.1.1, s1, cl_s]
  by_cases b2 : b = 2
  · subst b2
    obtain ⟨h1, r1, r2, r3⟩ := c_signAt hN2 q.dj pv ob.st cM.1 wM.1 (by omega) (f := f) (by omega)
    refine go _ h1 (by rw [cls, if_neg b0, if_neg b1, if_pos rfl, r1, cl_s]) r2 r3 (fun hh pmh rSh => ?_)
    obtain ⟨ha, s1, s2⟩ := m_smokeOf hN2 pmh rSh wM.1 (by omega) (f := f) (b := 0) (by omega) (by decide)
    have s1 : f_X11_smokeOf N y (nI f) 0 hh = _ := s1
    have pma := pmh.ex s2 (fun z z1 z2 z3 => by unfold inM at z3; omega)
    have rSa := rSh.ex s2 (by unfold inM; omega)
    obtain ⟨hb, u1, u2⟩ := m_smokeOf hN2 pma rSa wM.1 (by omega) (f := f) (b := 1) (by omega) (by decide)
    have u1 : f_X11_smokeOf N y (nI f) 1 ha = _ := u1
    have pmb := pma.ex u2 (fun z z1 z2 z3 => by unfold inM at z3; omega)
    refine ⟨hb, ?_, s2.trans u2⟩
    rw [m_within, cl_s, yesT (by decide), if_neg one0, if_pos (by decide), if_pos rfl, ck_p pmh.1.1, s1, cl_s, ck_p pma.1.1, u1, cl_s, ck_p pmb.1.1, m_signOf (by omega) pmb.1 pmb.2.1 hW (smX_le A M.1 _ 0) (smX_le A M.1 _ 1), cl_s]
    rfl
  by_cases b3 : b = 3
  · subst b3
    refine go _ h (by rw [cls, if_neg b0, if_neg b1, if_neg b2, if_pos rfl]) Gx.rf pv (fun hh pmh rSh => ⟨hh, ?_, Ex.rf⟩)
    have e := rSh.2.2.2.2 f (by omega)
    rw [Nat.zero_add] at e
    rw [m_within, cl_s, yesT (by decide), if_neg one0, if_pos (by decide), if_neg (by decide), if_pos rfl, ck_p pmh.1.1, mR_s pmh.1, rq_s, ck_p (mK_s pmh.1), mN_s pmh.1, show (29 : Int32) + nI f = nI (29 + f) from nI_add 29 f, ck_p (nI_ix (by omega) (by decide)), ix_nI (by omega), e]
  by_cases b4 : b = 4
  · subst b4
    refine go _ h (by rw [cls, if_neg b0, if_neg b1, if_neg b2, if_neg b3, if_pos rfl]) Gx.rf pv (fun hh pmh rSh => ⟨hh, ?_, Ex.rf⟩)
    rw [m_within, cl_s, yesT (by decide), if_neg one0, if_pos (by decide), if_neg (by decide), if_neg (by decide), ck_p pmh.1.1, m_housesOf (by omega) pmh.1 pmh.2.1 hW (by omega), cl_s]
  · refine go _ h (by rw [cls, if_neg b0, if_neg b1, if_neg b2, if_neg b3, if_neg b4]) Gx.rf pv (fun hh pmh rSh => ⟨hh, ?_, Ex.rf⟩)
    rw [m_within, cl_s, yesF (fun z => ?_), if_pos rfl]
    have z1 := z.1
    have z2 := z.2
    obtain ⟨k, hk, rfl⟩ := nI_of z1
    rw [show (4 : Int32) = nI 4 from rfl, nI_ltI (by decide) hk] at z2
    have hs : k = 0 ∨ k = 1 ∨ k = 2 ∨ k = 3 ∨ k = 4 := by omega
    rcases hs with rfl | rfl | rfl | rfl | rfl
    · exact b0 rfl
    · exact b1 rfl
    · exact b2 rfl
    · exact b3 rfl
    · exact b4 rfl
end DX
