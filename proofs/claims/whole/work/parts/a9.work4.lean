/-! The reference works a law: all of it. -/
section WRR
variable {N y ln : Nat} {h h' : PH} {E : Nat → Int32}
theorem wOp_25 {f : WF} {d : Nat} : wOp f d 25 = f 25 := by
  unfold wOp
  rw [up2_a _ _ _ (by decide), up2_a _ _ _ (by decide), up2_a _ _ _ (by decide), up2_a _ _ _ (by decide), up2_a _ _ _ (by decide)]
theorem wSm_25 {f : WF} {d : Nat} : wSm f d 25 = f 25 := by
  unfold wSm
  rw [up2_a _ _ _ (by decide), up2_a _ _ _ (by decide)]
theorem wTs_25 {f : WF} {d : Nat} : wTs f d 25 = f 25 := by
  unfold wTs
  rw [up2_a _ _ _ (by decide), up2_a _ _ _ (by decide), up2_a _ _ _ (by decide), up2_a _ _ _ (by decide), wSm_25]
theorem wFin_25 {f : WF} {d : Nat} {v : Int32} : (wFin f d v).1 = popd (f 25) d ∧ (wFin f d v).2 25 = f 25 := ⟨wPop_d d v, by
  show up2 f 23 (wPop f d v).1 (if f 24 (wPop f d v).1 = 0 then (wPop f d v).2 else f 23 (wPop f d v).1 * (wPop f d v).2) 25 = f 25
  exact up2_a _ _ _ (by decide)⟩
theorem st_25 {f : WF} {d c : Nat} (hc : cOk d c) : ((wSt E (d, f) c).1, (wSt E (d, f) c).2 25) = dSp (d, f 25) c := by
  have val : (c < 20 ∨ 100 ≤ c) → dSp (d, f 25) c = (popd (f 25) d, f 25) := fun hh => by
    unfold dSp
    rw [if_neg (by omega), if_neg (by omega), if_neg (by omega), if_neg (by omega)]
  have wel : (c < 20 ∨ 100 ≤ c) → wSt E (d, f) c = if 100 ≤ c then wFin f d (nI (c - 100)) else wFin f d (E c) := fun hh => by
    unfold wSt
    rw [if_neg (by omega), if_neg (by omega), if_neg (by omega), if_neg (by omega), if_neg (by omega), if_neg (by omega), if_neg (by omega)]
  rcases hc.1 with hc | hc | hc
  · rw [val (Or.inl hc), wel (Or.inl hc), if_neg (by omega), wFin_25.1, wFin_25.2]
  · have up : ∀ {g : WF} {r k : Nat} {v : Int32}, r ≠ 25 → up2 g r k v 25 = g 25 := fun hr => up2_a _ _ _ (fun z => hr z.symm)
    rcases (show c = 20 ∨ c = 21 ∨ c = 22 ∨ c = 24 ∨ c = 25 ∨ c = 26 ∨ c = 27 ∨ c = 28 ∨ c = 29 ∨ c = 30 by omega) with rfl | rfl | rfl | rfl | rfl | rfl | rfl | rfl | rfl | rfl
    · exact Prod.ext rfl (by show up2 (wSm f d) 22 d (nI 20) 25 = f 25; rw [up (by decide), wSm_25])
    · exact Prod.ext rfl (by show up2 (wSm f d) 22 d (nI 21) 25 = f 25; rw [up (by decide), wSm_25])
    · exact Prod.ext rfl (by show up2 f 24 d (nI 22) 25 = f 25; rw [up (by decide)])
    · exact Prod.ext rfl (by show up2 (up2 (up2 (up2 (wSm f d) 19 d (wSv f d)) 20 d (nI 24)) 21 d 0) 22 d 20 25 = f 25; rw [up (by decide), up (by decide), up (by decide), up (by decide), wSm_25])
    · exact Prod.ext rfl (by show up2 (up2 (up2 (up2 (wSm f d) 19 d (wSv f d)) 20 d (nI 25)) 21 d 0) 22 d 20 25 = f 25; rw [up (by decide), up (by decide), up (by decide), up (by decide), wSm_25])
    · exact Prod.ext rfl (by show up2 (wTs f d) 18 d (nI 26) 25 = f 25; rw [up (by decide), wTs_25])
    · exact Prod.ext rfl (by show up2 (wTs f d) 18 d (nI 27) 25 = f 25; rw [up (by decide), wTs_25])
    · exact Prod.ext rfl (by show wOp (up2 f 25 (d + 1) 0) (d + 1) 25 = va_up (f 25) (d + 1) 0; rw [wOp_25, up2_row])
    · exact Prod.ext (by show (wFin (wTs f d) (d - 1) (wKv f d (wTv f d (wSv f d)))).1 = popd (f 25) (d - 1); rw [wFin_25.1, wTs_25]) (by show (wFin (wTs f d) (d - 1) (wKv f d (wTv f d (wSv f d)))).2 25 = f 25; rw [wFin_25.2, wTs_25])
    · exact Prod.ext rfl (by show wOp (up2 f 25 (d + 1) 1) (d + 1) 25 = va_up (f 25) (d + 1) 1; rw [wOp_25, up2_row])
  · rw [val (Or.inr hc.1), wel (Or.inr hc.1), if_pos hc.1, wFin_25.1, wFin_25.2]
theorem wk_run (hN : 2000 ≤ N) (hl : ln < 4) : ∀ (R : List Nat) (i d t0 n : Nat) (h : PH), MD h y → dOk R (d, wfh y h 25) → hI h (y + 13) ln = nI t0 → i + R.length = t0 → t0 ≤ 2000 → (∀ k, k < R.length → hI h (y + 14) (i + k) = nI (R.getD k 0)) → ∃ h', f_X11_worked_14 N (n + R.length) y (nI ln) (nI d) (nI i) h = f_X11_worked_14 N n y (nI ln) (nI (wR (fun k => hI h (y + 26) k) R (d, wfh y h)).1) (nI t0) h' ∧ wfh y h' = (wR (fun k => hI h (y + 26) k) R (d, wfh y h)).2 ∧ Ex (P25 y) h h'
  | [], i, d, t0, n, h, M, ok, e13, et, ht, e14 => by
    have et : i = t0 := et
    rw [et]
    exact ⟨h, rfl, rfl, Ex.rf⟩
  | c :: R, i, d, t0, n, h, M, ok, e13, et, ht, e14 => by
    obtain ⟨o1, o2, o3⟩ := ok
    have et : i + (R.length + 1) = t0 := by simpa using et
    have c0 : hI h (y + 14) i = nI c := e14 0 (by simp)
    have s := st_25 (E := fun k => hI h (y + 26) k) (f := wfh y h) o2
    obtain ⟨h1, a1, a2, a3⟩ := wk_step hN M o1 o2 (dOk_5 o3) hl e13 (by omega) ht c0
    have o3 : dOk R (dSp (d, wfh y h 25) c) := o3
    rw [← s, ← a2] at o3
    have x : ∀ z, z < y + 17 ∨ y + 26 ≤ z → hI h1 z = hI h z := fun z hz => a3.2.2.2 z (fun w => by have := w.1; have := w.2; omega)
    obtain ⟨h', b1, b2, b3⟩ := wk_run hN hl R (i + 1) (wSt (fun k => hI h (y + 26) k) (d, wfh y h) c).1 t0 n h1 (M.sm a3.1) o3 (by rw [x _ (by omega)]; exact e13) (by omega) ht (fun k hk => by
      rw [x _ (by omega), show i + 1 + k = i + (k + 1) by omega]
      exact e14 (k + 1) (by simpa using hk))
    have ee : ((wSt (fun k => hI h (y + 26) k) (d, wfh y h) c).1, wfh y h1) = wSt (fun k => hI h (y + 26) k) (d, wfh y h) c := by rw [a2]
    have eE : (fun k => hI h1 (y + 26) k) = fun k => hI h (y + 26) k := by rw [x _ (by omega)]
    rw [eE, ee] at b1 b2
    refine ⟨h', ?_, b2, a3.trans b3⟩
    show f_X11_worked_14 N (n + R.length + 1) y (nI ln) (nI d) (nI i) h = _
    rw [a1]
    exact b1
theorem evL_f {code : Nat → Int32} {s c w l m : Int32} : ∀ (C : List Int32) (i : Nat) (st : List Int32), (∀ k, k < C.length → code (i + k) = C.getD k 0) → evL code s c w l m C.length i st = C.foldl (evS s c w l m) st
  | [], i, st, _ => rfl
  | v :: C, i, st, e => by
    have e0 : code i = v := e 0 (by simp)
    show evL code s c w l m C.length (i + 1) (evS s c w l m st (code i)) = C.foldl (evS s c w l m) (evS s c w l m st v)
    rw [e0]
    exact evL_f C (i + 1) _ (fun k hk => by
      rw [show i + 1 + k = i + (k + 1) by omega]
      exact e (k + 1) (by simpa using hk))
/-- the value a law has -/
def lwV (C : List Int32) (s c w l m : Int32) : Int32 := evC (fun k => C.getD k 0) C.length s c w l m
theorem lwV_e {C : List Int32} {s c w l m : Int32} {code : Nat → Int32} (e : ∀ k, k < C.length → code k = C.getD k 0) : evC code C.length s c w l m = lwV C s c w l m := by
  unfold lwV evC
  rw [evL_f C 0 [] (fun k hk => by rw [Nat.zero_add]; exact e k hk), evL_f C 0 [] (fun k hk => by rw [Nat.zero_add])]
theorem lwV_c {C : List Int32} {v : Int32} (e : cR E C [] = [v]) : lwV C (E 1) (E 2) (E 3) (E 4) (E 5) = v := by
  unfold lwV evC
  rw [evL_f C 0 [] (fun k hk => by rw [Nat.zero_add]), show C.foldl (evS (E 1) (E 2) (E 3) (E 4) (E 5)) [] = [v] from e]
  rfl
theorem m_worked (hN : 2000 ≤ N) {o : Bool} {C : List Int32} {R : List Nat} {f0 : Nat} (M : MD h y) (hl : ln < 4) (e12 : hI h (y + 12) ln = nI f0) (e13 : hI h (y + 13) ln = nI (f0 + R.length)) (le : f0 + R.length ≤ 2000) (lr : R.length ≤ 1000) (e14 : ∀ k, k < R.length → hI h (y + 14) (f0 + k) = nI (R.getD k 0)) (hb : HB 0 R) (g : GTs o 5 0 C R) : ∃ h', f_X11_worked N y (nI ln) h = some (lwV C (hI h (y + 26) 1) (hI h (y + 26) 2) (hI h (y + 26) 3) (hI h (y + 26) 4) (hI h (y + 26) 5), h') ∧ Ex (inM y) h h' := by
  obtain ⟨v, g1, g2⟩ := g (fun k => hI h (y + 26) k) (fun k => hI h (y + 26) k) ⟨rfl, rfl, rfl, fun _ => ⟨rfl, rfl⟩⟩
  have ev := lwV_c (g1 [] (by decide))
  obtain ⟨h1, a1, a2, a3⟩ : ∃ h1, f_X11_opens N y (nI 0) h = some ((), h1) ∧ wfh y h1 = wOp (wfh y h) 0 ∧ Ex (P25 y) h h1 := ⟨_, wk_opens M (by decide)⟩
  have a1 : f_X11_opens N y 0 h = _ := a1
  have M1 := M.sm a3.1
  have x : ∀ z, z < y + 17 ∨ y + 26 ≤ z → hI h1 z = hI h z := fun z hz => a3.2.2.2 z (fun w => by have := w.1; have := w.2; omega)
  have eE : (fun k => hI h1 (y + 26) k) = fun k => hI h (y + 26) k := by rw [x _ (by omega)]
  obtain ⟨g3, r1, r2, -⟩ := g2 (wOp (wfh y h) 0) (Or.inl rfl) (up2_self _ _ _ _) (by unfold wOp; rw [up2_o (Or.inl (by decide)), up2_o (Or.inl (by decide)), up2_self]) (by unfold wOp; rw [up2_o (Or.inl (by decide)), up2_self]) (by unfold wOp; rw [up2_o (Or.inl (by decide)), up2_o (Or.inl (by decide)), up2_o (Or.inl (by decide)), up2_self]) (by unfold wOp; rw [up2_o (Or.inl (by decide)), up2_o (Or.inl (by decide)), up2_o (Or.inl (by decide)), up2_o (Or.inl (by decide)), up2_self])
  obtain ⟨h2, b1, b2, b3⟩ := wk_run hN hl R f0 0 (f0 + R.length) (N - R.length) h1 M1 (hb _ rfl).1 (by rw [x _ (by omega)]; exact e13) rfl le (fun k hk => by rw [x _ (by omega)]; exact e14 k hk)
  rw [eE, a2, r1] at b1 b2
  have hk : N - R.length + R.length = N := by omega
  rw [hk] at b1
  have M2 := M1.sm b3.1
  have x2 : ∀ z, z < y + 17 ∨ y + 26 ≤ z → hI h2 z = hI h z := fun z hz => (b3.2.2.2 z (fun w => by have := w.1; have := w.2; omega)).trans (x z hz)
  obtain ⟨h3, c1, c2, c3, c4⟩ := wk_tests (N := N) (d := 0) M2 (by decide)
  have c1 : f_X11_tests N y 0 h2 = _ := c1
  have M3 := M2.sm c3.1
  have kk : N - R.length = (N - R.length - 1) + 1 := by omega
  refine ⟨h3, ?_, ((a3.trans b3).trans c3).mono (fun z hz => ⟨hz.1, by have := hz.2; omega⟩)⟩
  unfold f_X11_worked
  rw [ck_p M.1, a1, cl_s, ck_p M1.1, mR_lineFrom M1, rq_s, ck_p (mK_lineFrom M1), mN_lineFrom M1, ck_p (nI_ix hl (by decide)), ix_nI (by omega), x _ (by omega), e12, bd_e]
  have b1 : f_X11_worked_14 N N y (nI ln) 0 (nI f0) h1 = _ := b1
  rw [b1, kk]
  show f_X11_worked_14_b N (f_X11_worked_14 N (N - R.length - 1)) y (nI ln) (nI 0) (nI (f0 + R.length)) h2 = _
  unfold f_X11_worked_14_b
  rw [ck_p M2.1, mR_lineTo M2, rq_s, ck_p (mK_lineTo M2), mN_lineTo M2, ck_p (nI_ix hl (by decide)), ix_nI (show ln < 2 ^ 31 by omega), x2 _ (by omega), e13, if_pos (Int32.le_refl _), c1, cl_s, ck_p M3.1, mR_kept M3, rq_s, ck_p (mK_kept M3), mN_kept M3, ck_p (by decide), c4, b2, r2, ev]
end WRR
