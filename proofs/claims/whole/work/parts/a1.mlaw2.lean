/-! The reference's law: comparing, and/or, brackets, parts. -/
section MLX
variable {N y f l d m c p : Nat} {X : TX} {q : QS} {h h' : PH} {R : List Nat}
/-- none of + - * is next; what is compared is so once only -/
theorem r_304 (l0 : MLs X y f l h q) (hd : d ≤ 5) (n1 : ¬ sSg X q.1 43 = true) (n2 : ¬ sSg X q.1 45 = true) (n3 : ¬ sSg X q.1 42 = true) (n4 : (sSg X q.1 60 = true ∨ sSg X q.1 61 = true) → hI h (y + 16) d = 1) (n : Nat) : f_X11_reads_11 N (n + 1) y (nI d) 0 h = f_X11_reads_304 N (f_X11_reads_11 N n) y (nI d) 0 h := by
  have M := l0.2.1.1.1.1
  have K := M.1
  show f_X11_reads_11_b N (f_X11_reads_11 N n) y (nI d) 0 h = _
  unfold f_X11_reads_11_b
  rw [if_pos rfl, ck_p K, l0.sg (v := 43) (c := 43) rfl (by decide), cl_s, ite_i yb0, if_pos (sF_of n1), ck_p K, l0.sg (v := 45) (c := 45) rfl (by decide), cl_s, ite_i yb0, if_pos (sF_of n2), ck_p K, l0.sg (v := 42) (c := 42) rfl (by decide), cl_s, ite_i yb0, if_pos (sF_of n3), ck_p K, l0.sg (v := 60) (c := 60) rfl (by decide), cl_s, ite_i yb0]
  have go : hI h (y + 16) d = 1 → f_X11_reads_263 N (f_X11_reads_11 N n) y (nI d) 0 h = f_X11_reads_304 N (f_X11_reads_11 N n) y (nI d) 0 h := fun e => by
    unfold f_X11_reads_263
    rw [ck_p K, mR_compared M, rq_s, ck_p (mK_compared M), mN_compared M, ck_p (nI_ix (by omega) (by decide)), ix_nI (by omega), e, if_neg (by decide)]
  by_cases c6 : sSg X q.1 60 = true
  · rw [if_neg (by rw [c6]; decide)]
    exact go (n4 (Or.inl c6))
  rw [if_pos (sF_of c6), ck_p K, l0.sg (v := 61) (c := 61) rfl (by decide), cl_s, ite_i yb0]
  by_cases c7 : sSg X q.1 61 = true
  · rw [if_neg (by rw [c7]; decide)]
    exact go (n4 (Or.inr c7))
  rw [if_pos (sF_of c7)]
/-- < = -/
theorem r_cmp (hN : 2000 ≤ N) {r c : Nat} (hrc : (r = 24 ∧ c = 60) ∨ (r = 25 ∧ c = 61)) (hd : d ≤ 5) (hm : m ≤ d) (l0 : MLs X y f l h q) (hc : sSg X q.1 c = true) (e0 : hI h (y + 16) d = 0) : ∃ h1, (∀ n, f_X11_reads_11 N (n + 1) y (nI d) 0 h = f_X11_reads_11 N n y (nI d) 1 h1) ∧ MLs X y f l h1 (qN X r q) ∧ Pl y d m (f + q.2.2.length) h h1 ∧ hI h1 (y + 15) = hI h (y + 15) ∧ hI h1 (y + 16) d = 1 := by
  have M := l0.2.1.1.1.1
  have K := M.1
  obtain ⟨g, a1, a2, a3, a4, a5⟩ := l0.2.1.puts (N := N) (v := nI r) (d := d) (m := m) rfl (l0.room (sSg_t hc)).1
  have a2' : MLp X y f l (sI g (y + 16) d ((1 : Int32) &&& 1)) q.1.2 (q.2.2 ++ [r]) := a2.w (Or.inr rfl)
  obtain ⟨h1, b1, b2, b3, b4, b5⟩ := l0.nx (d := d) (m := m) (c := f + q.2.2.length) hN (sSg_t hc) a2'
  refine ⟨h1, fun n => ?_, b2, (a3.trans (Pl.cc hm)).trans b3, b4.trans ((hI_sI_ne (by omega)).trans a4), by rw [b5, hI_sI_eq, va_eq]; decide⟩
  have Mg := a2.1.1.1
  have go : f_X11_reads_289 N (f_X11_reads_11 N n) (nI r) y y (nI d) h = f_X11_reads_11 N n y (nI d) 1 h1 := by
    unfold f_X11_reads_289 f_X11_reads_424
    rw [ck_p K, a1, cl_s, ck_p Mg.1, mR_compared Mg, rq_s, ck_p (mK_compared Mg), mN_compared Mg, ck_p (nI_ix (by omega) (by decide)), ix_nI (by omega), bd_e, ck_p a2'.1.1.1.1, b1, cl_s]
  have s60 := l0.sg (N := N) (v := 60) (c := 60) rfl (by decide)
  show f_X11_reads_11_b N (f_X11_reads_11 N n) y (nI d) 0 h = _
  unfold f_X11_reads_11_b
  have x43 : sSg X q.1 43 = false := by rcases hrc with ⟨-, rfl⟩ | ⟨-, rfl⟩ <;> exact sSg_x hc (by decide)
  have x45 : sSg X q.1 45 = false := by rcases hrc with ⟨-, rfl⟩ | ⟨-, rfl⟩ <;> exact sSg_x hc (by decide)
  have x42 : sSg X q.1 42 = false := by rcases hrc with ⟨-, rfl⟩ | ⟨-, rfl⟩ <;> exact sSg_x hc (by decide)
  rw [if_pos rfl, ck_p K, l0.sg (v := 43) (c := 43) rfl (by decide), cl_s, ite_i yb0, if_pos x43, ck_p K, l0.sg (v := 45) (c := 45) rfl (by decide), cl_s, ite_i yb0, if_pos x45, ck_p K, l0.sg (v := 42) (c := 42) rfl (by decide), cl_s, ite_i yb0, if_pos x42, ck_p K, s60, cl_s, ite_i yb0]
  unfold f_X11_reads_263
  rcases hrc with ⟨rfl, rfl⟩ | ⟨rfl, rfl⟩
  · rw [if_neg (by rw [hc]; decide), ck_p K, mR_compared M, rq_s, ck_p (mK_compared M), mN_compared M, ck_p (nI_ix (by omega) (by decide)), ix_nI (by omega), e0, if_pos rfl, s60, cl_s, ite_i yb0, if_neg (by rw [hc]; decide)]
    exact go
  · have x60 : sSg X q.1 60 = false := sSg_x hc (by decide)
    rw [if_pos x60, ck_p K, l0.sg (v := 61) (c := 61) rfl (by decide), cl_s, ite_i yb0, if_neg (by rw [hc]; decide), ck_p K, mR_compared M, rq_s, ck_p (mK_compared M), mN_compared M, ck_p (nI_ix (by omega) (by decide)), ix_nI (by omega), e0, if_pos rfl, s60, cl_s, ite_i yb0, if_pos x60]
    exact go
/-- and, or -/
theorem r_and (hN : 2000 ≤ N) {r i : Nat} (hri : (r = 26 ∧ i = 20) ∨ (r = 27 ∧ i = 21)) (hd : d ≤ 5) (hm : m ≤ d) (l0 : MLs X y f l h q) (hc : sWd X q.1 i = true) : ∃ h1, (∀ n, f_X11_reads_11 N (n + 1) y (nI d) 0 h = f_X11_reads_11 N n y (nI d) 1 h1) ∧ MLs X y f l h1 (qN X r q) ∧ Pl y d m (f + q.2.2.length) h h1 ∧ hI h1 (y + 15) = hI h (y + 15) ∧ hI h1 (y + 16) d = 0 := by
  have M := l0.2.1.1.1.1
  have K := M.1
  obtain ⟨g, a1, a2, a3, a4, a5⟩ := l0.2.1.puts (N := N) (v := nI r) (d := d) (m := m) rfl (l0.room (sWd_t hc)).1
  have a2' : MLp X y f l (sI g (y + 16) d ((0 : Int32) &&& 1)) q.1.2 (q.2.2 ++ [r]) := a2.w (Or.inr rfl)
  obtain ⟨h1, b1, b2, b3, b4, b5⟩ := l0.nx (d := d) (m := m) (c := f + q.2.2.length) hN (sWd_t hc) a2'
  refine ⟨h1, fun n => ?_, b2, (a3.trans (Pl.cc hm)).trans b3, b4.trans ((hI_sI_ne (by omega)).trans a4), by rw [b5, hI_sI_eq, va_eq]; decide⟩
  have Mg := a2.1.1.1
  have go : f_X11_reads_342 N (f_X11_reads_11 N n) (nI r) y y (nI d) h = f_X11_reads_11 N n y (nI d) 1 h1 := by
    unfold f_X11_reads_342 f_X11_reads_424
    rw [ck_p K, a1, cl_s, ck_p Mg.1, mR_compared Mg, rq_s, ck_p (mK_compared Mg), mN_compared Mg, ck_p (nI_ix (by omega) (by decide)), ix_nI (by omega), bd_e, ck_p a2'.1.1.1.1, b1, cl_s]
  have w20 := l0.wd (N := N) (i := 20) (v := 1111) (by decide) kL20
  have w21 := l0.wd (N := N) (i := 21) (v := 423) (by decide) kL21
  rw [r_304 l0 hd (by rw [sWd_x hc]; decide) (by rw [sWd_x hc]; decide) (by rw [sWd_x hc]; decide) (fun z => by rw [sWd_x hc, sWd_x hc] at z; rcases z with z | z <;> exact absurd z (by decide)) n]
  unfold f_X11_reads_304 f_X11_reads_324
  rcases hri with ⟨rfl, rfl⟩ | ⟨rfl, rfl⟩
  · rw [ck_p K, w20, cl_s, ite_i yb0, if_neg (by rw [hc]; decide), ck_p K, w20, cl_s, ite_i yb0, if_neg (by rw [hc]; decide)]
    exact go
  · have x20 : sWd X q.1 20 = false := sF_of (fun z => by
      have := (sWd_i.mp hc).2.2
      have := (sWd_i.mp z).2.2
      omega)
    rw [ck_p K, w20, cl_s, ite_i yb0, if_pos x20, ck_p K, w21, cl_s, ite_i yb0, if_neg (by rw [hc]; decide), ck_p K, w20, cl_s, ite_i yb0, if_pos x20]
    exact go
/-- after ) the nots that wait are done -/
theorem r_379 {K : Nat → Int32 → Int32 → PH → Option (Int32 × PH)} {v : Int32} (M : MD h y) : ∀ d n, d < n → d ≤ 5 → f_X11_reads_379 N K n y (nI d) v h = f_X11_reads_424 N K y (nI (popd (hI h (y + 15)) d)) v h
  | 0, 0, h1, _ => by omega
  | d + 1, 0, h1, _ => by omega
  | 0, n + 1, h1, _ => by
    show f_X11_reads_379_b N K (f_X11_reads_379 N K n) y (nI 0) v h = _
    unfold f_X11_reads_379_b
    rw [if_pos (show nI 0 ≤ 0 by decide)]
    rfl
  | d + 1, n + 1, h1, h2 => by
    show f_X11_reads_379_b N K (f_X11_reads_379 N K n) y (nI (d + 1)) v h = _
    unfold f_X11_reads_379_b popd
    rw [if_neg (show ¬ nI (d + 1) ≤ 0 from fun z => by have := (nI_leI (b := 0) (by omega) (by decide)).mp z; omega), ck_p M.1, mR_opened M, rq_s, ck_p (mK_opened M), mN_opened M, ck_p (nI_ix (by omega) (by decide)), ix_nI (by omega)]
    by_cases c : hI h (y + 15) (d + 1) = 1
    · rw [if_pos c, if_pos c, nI_p, bd_e]
      exact r_379 M d n (by omega) (by omega)
    · rw [if_neg c, if_neg c]
theorem r_152 {K : Nat → Int32 → Int32 → PH → Option (Int32 × PH)} {v : Int32} (M : MD h y) : ∀ d n, d < n → d ≤ 5 → f_X11_reads_152 N K n y (nI d) v h = f_X11_reads_172 N K y (nI (popd (hI h (y + 15)) d)) v h
  | 0, 0, h1, _ => by omega
  | d + 1, 0, h1, _ => by omega
  | 0, n + 1, h1, _ => by
    show f_X11_reads_152_b N K (f_X11_reads_152 N K n) y (nI 0) v h = _
    unfold f_X11_reads_152_b
    rw [if_pos (show nI 0 ≤ 0 by decide)]
    rfl
  | d + 1, n + 1, h1, h2 => by
    show f_X11_reads_152_b N K (f_X11_reads_152 N K n) y (nI (d + 1)) v h = _
    unfold f_X11_reads_152_b popd
    rw [if_neg (show ¬ nI (d + 1) ≤ 0 from fun z => by have := (nI_leI (b := 0) (by omega) (by decide)).mp z; omega), ck_p M.1, mR_opened M, rq_s, ck_p (mK_opened M), mN_opened M, ck_p (nI_ix (by omega) (by decide)), ix_nI (by omega)]
    by_cases c : hI h (y + 15) (d + 1) = 1
    · rw [if_pos c, if_pos c, nI_p, bd_e]
      exact r_152 M d n (by omega) (by omega)
    · rw [if_neg c, if_neg c]
theorem popd_e {r r' : Nat → Int32} : ∀ d, (∀ j, j ≤ d → r j = r' j) → popd r d = popd r' d
  | 0, _ => rfl
  | d + 1, e => by
    unfold popd
    rw [e (d + 1) (Nat.le_refl _), popd_e d (fun j hj => e j (by omega))]
/-- ) -/
theorem r_close {d' : Nat} (hN : 2000 ≤ N) (hd : d + 1 ≤ 5) (l0 : MLs X y f l h q) (hc : sSg X q.1 41 = true) : ∃ h1, (∀ n, f_X11_reads_11 N (n + 1) y (nI (d + 1)) 0 h = f_X11_reads_11 N n y (nI (popd (hI h (y + 15)) d)) 0 h1) ∧ MLs X y f l h1 (qN X 29 q) ∧ Pl y d' m (f + q.2.2.length) h h1 := by
  have M := l0.2.1.1.1.1
  have K := M.1
  obtain ⟨g, a1, a2, a3, a4, a5⟩ := l0.2.1.puts (N := N) (v := 29) (r := 29) (d := d') (m := m) rfl (l0.room (sSg_t hc)).1
  obtain ⟨h1, b1, b2, b3, b4, b5⟩ := l0.nx (d := d') (m := m) (c := f + q.2.2.length) hN (sSg_t hc) a2
  refine ⟨h1, fun n => ?_, b2, a3.trans b3⟩
  have nw : ∀ i, sWd X q.1 i = false := fun i => sF_of (fun z => by
    have := (sWd_i.mp z).2.1
    have := (sSg_i.mp hc).2.1
    omega)
  rw [r_304 l0 hd (by rw [sSg_x hc (by decide)]; decide) (by rw [sSg_x hc (by decide)]; decide) (by rw [sSg_x hc (by decide)]; decide) (fun z => by rw [sSg_x hc (by decide), sSg_x hc (by decide)] at z; rcases z with z | z <;> exact absurd z (by decide)) n]
  unfold f_X11_reads_304
  rw [ck_p K, l0.wd (i := 20) (v := 1111) (by decide) kL20, cl_s, ite_i yb0, if_pos (nw 20), ck_p K, l0.wd (i := 21) (v := 423) (by decide) kL21, cl_s, ite_i yb0, if_pos (nw 21), ck_p K, l0.sg (v := 41) (c := 41) rfl (by decide), cl_s, ite_i yb0, if_neg (by rw [hc]; decide), if_neg (show ¬ nI (d + 1) ≤ 0 from fun z => by have := (nI_leI (b := 0) (by omega) (by decide)).mp z; omega), ck_p K, a1, cl_s, nI_p, bd_e, r_379 a2.1.1.1 d N (by omega) (by omega), a4]
  unfold f_X11_reads_424
  rw [ck_p a2.1.1.1.1, b1, cl_s]
/-- the end of a law, or a fault: d = 0 -/
theorem r_end0 (hN : 2000 ≤ N) (l0 : MLs X y f l h q) (n1 : ¬ sSg X q.1 43 = true) (n2 : ¬ sSg X q.1 45 = true) (n3 : ¬ sSg X q.1 42 = true) (n4 : (sSg X q.1 60 = true ∨ sSg X q.1 61 = true) → hI h (y + 16) 0 = 1) (n5 : ¬ sWd X q.1 20 = true) (n6 : ¬ sWd X q.1 21 = true) : ∃ h1, (∀ n, f_X11_reads_11 N (n + 1) y (nI 0) 0 h = some (yb (decide ((xSn X 59 q.1).1 = 0)), h1)) ∧ Rk y h h1 ∧ MRs X y h1 (xSn X 59 q.1) := by
  have M := l0.2.1.1.1.1
  have K := M.1
  have e418 : ¬ sSg X q.1 59 = true → ∃ h1, f_X11_reads_418 N y h = some (yb (decide ((xSn X 59 q.1).1 = 0)), h1) ∧ Rk y h h1 ∧ MRs X y h1 (xSn X 59 q.1) := fun c => by
    obtain ⟨h1, a1, a2, a3⟩ := m_fails (N := N) (k := 1) l0.2.1.1
    have a1 : f_X11_fails N y 1 h = _ := a1
    rw [xSn_n l0.1 c]
    refine ⟨h1, ?_, a2, MRs.f (Nat.le_refl 1) a3⟩
    unfold f_X11_reads_418
    rw [ck_p K, a1, cl_s, ck_p (Or.inl rfl), d0F (Nat.le_refl 1)]
  have e399 : ∃ h1, f_X11_reads_399 N y (nI 0) h = some (yb (decide ((xSn X 59 q.1).1 = 0)), h1) ∧ Rk y h h1 ∧ MRs X y h1 (xSn X 59 q.1) := by
    unfold f_X11_reads_399
    rw [if_pos (show nI 0 = 0 from rfl), ck_p K, l0.sg (v := 59) (c := 59) rfl (by decide), cl_s, ite_i yb0]
    by_cases c : sSg X q.1 59 = true
    · obtain ⟨h1, a1, a2, -, a4⟩ := m_next hN l0.2.1.1
      rw [if_neg (by rw [c]; decide), ck_p K, a1, cl_s, xSn_y c]
      exact ⟨h1, rfl, a2, MRs.z a4⟩
    · rw [if_pos (sF_of c)]
      exact e418 c
  obtain ⟨h1, a1, a2, a3⟩ := e399
  refine ⟨h1, fun n => ?_, a2, a3⟩
  rw [r_304 l0 (Nat.zero_le _) n1 n2 n3 n4 n]
  unfold f_X11_reads_304
  rw [ck_p K, l0.wd (i := 20) (v := 1111) (by decide) kL20, cl_s, ite_i yb0, if_pos (sF_of n5), ck_p K, l0.wd (i := 21) (v := 423) (by decide) kL21, cl_s, ite_i yb0, if_pos (sF_of n6), ck_p K, l0.sg (v := 41) (c := 41) rfl (by decide), cl_s, ite_i yb0]
  by_cases c : sSg X q.1 41 = true
  · rw [if_neg (by rw [c]; decide), if_pos (show nI 0 ≤ 0 by decide)]
    exact a1
  · rw [if_pos (sF_of c)]
    exact a1
/-- no ) where one is wanted -/
theorem r_endB (hd : d + 1 ≤ 5) (l0 : MLs X y f l h q) (n1 : ¬ sSg X q.1 43 = true) (n2 : ¬ sSg X q.1 45 = true) (n3 : ¬ sSg X q.1 42 = true) (n4 : (sSg X q.1 60 = true ∨ sSg X q.1 61 = true) → hI h (y + 16) (d + 1) = 1) (n5 : ¬ sWd X q.1 20 = true) (n6 : ¬ sWd X q.1 21 = true) (n7 : ¬ sSg X q.1 41 = true) : ∃ h1, (∀ n, f_X11_reads_11 N (n + 1) y (nI (d + 1)) 0 h = some (0, h1)) ∧ Rk y h h1 ∧ MRs X y h1 (flt X 1 q.1) := by
  have M := l0.2.1.1.1.1
  have K := M.1
  obtain ⟨h1, a1, a2, a3⟩ := m_fails (N := N) (k := 1) l0.2.1.1
  have a1 : f_X11_fails N y 1 h = _ := a1
  rw [flt_0 l0.1]
  refine ⟨h1, fun n => ?_, a2, MRs.f (Nat.le_refl 1) a3⟩
  rw [r_304 l0 hd n1 n2 n3 n4 n]
  unfold f_X11_reads_304 f_X11_reads_399 f_X11_reads_418
  rw [ck_p K, l0.wd (i := 20) (v := 1111) (by decide) kL20, cl_s, ite_i yb0, if_pos (sF_of n5), ck_p K, l0.wd (i := 21) (v := 423) (by decide) kL21, cl_s, ite_i yb0, if_pos (sF_of n6), ck_p K, l0.sg (v := 41) (c := 41) rfl (by decide), cl_s, ite_i yb0, if_pos (sF_of n7), if_neg (show ¬ nI (d + 1) = 0 from fun z => by have := (nI_eq (b := 0) (by omega) (by decide)).mp z; omega), ck_p K, a1, cl_s, ck_p (Or.inl rfl)]
end MLX
