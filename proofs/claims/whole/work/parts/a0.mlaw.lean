/-! The reference reads a law. -/
def popd (r : Nat → Int32) : Nat → Nat
  | 0 => 0
  | d + 1 => if r (d + 1) = 1 then popd r d else d + 1
/-- what reading a law keeps: codes below c, what is opened to d, what is compared below m -/
def Pl (y d m c : Nat) (h h' : PH) : Prop := Sm h h' ∧ hz h' = hz h ∧ (∀ z, z ≠ y → z ≠ y + 14 → z ≠ y + 15 → z ≠ y + 16 → hI h' z = hI h z) ∧ (∀ z, z ≠ y → hJ h' z = hJ h z) ∧ (∀ k, k < c → hI h' (y + 14) k = hI h (y + 14) k) ∧ (∀ j, j ≤ d → hI h' (y + 15) j = hI h (y + 15) j) ∧ (∀ j, j < m → hI h' (y + 16) j = hI h (y + 16) j) ∧ ∀ k, k = 1 ∨ k = 24 ∨ k = 54 → hI h' y k = hI h y k
/-- the tape at p, the codes R from f, the law's number l -/
def MLp (X : TX) (y f l : Nat) (h : PH) (p : Nat) (R : List Nat) : Prop := RZ X y h p ∧ hI h y 23 = nI (f + R.length) ∧ (∀ k, k < R.length → hI h (y + 14) (f + k) = nI (R.getD k 0)) ∧ hI h y 24 = nI l
def MLs (X : TX) (y f l : Nat) (h : PH) (q : QS) : Prop := q.1.1 = 0 ∧ MLp X y f l h q.1.2 q.2.2 ∧ f + q.2.2.length ≤ 1000 + q.1.2
section MLW
variable {N y f l d m c p : Nat} {X : TX} {q : QS} {h h' : PH} {R : List Nat}
theorem nI_p : nI (d + 1) + (-1) = nI d := by
  rw [← nI_1, Int32.add_assoc, show (1 : Int32) + (-1) = 0 by decide, Int32.add_zero]
theorem Pl.rf : Pl y d m c h h := ⟨Sm.rfl', rfl, fun _ _ _ _ _ => rfl, fun _ _ => rfl, fun _ _ => rfl, fun _ _ => rfl, fun _ _ => rfl, fun _ _ => rfl⟩
theorem Pl.trans {h1 h2 : PH} (p : Pl y d m c h h1) (q : Pl y d m c h1 h2) : Pl y d m c h h2 := by
  obtain ⟨p1, p2, p3, p4, p5, p6, p7, p8⟩ := p
  obtain ⟨q1, q2, q3, q4, q5, q6, q7, q8⟩ := q
  exact ⟨p1.trans q1, q2.trans p2, fun z a b e g => (q3 z a b e g).trans (p3 z a b e g), fun z a => (q4 z a).trans (p4 z a), fun k a => (q5 k a).trans (p5 k a), fun k a => (q6 k a).trans (p6 k a), fun k a => (q7 k a).trans (p7 k a), fun k a => (q8 k a).trans (p8 k a)⟩
theorem Pl.mono {d' m' c' : Nat} (hd : d' ≤ d) (hm : m' ≤ m) (hc : c' ≤ c) (p : Pl y d m c h h') : Pl y d' m' c' h h' := by
  obtain ⟨p1, p2, p3, p4, p5, p6, p7, p8⟩ := p
  exact ⟨p1, p2, p3, p4, fun k a => p5 k (by omega), fun k a => p6 k (by omega), fun k a => p7 k (by omega), p8⟩
theorem Rk.pl (g : Rk y h h') : Pl y d m c h h' := ⟨g.1.1, g.1.2.1, fun z a _ _ _ => (g.1.2.2 z a).1, fun z a => (g.1.2.2 z a).2, fun k _ => by rw [(g.1.2.2 (y + 14) (by omega)).1], fun k _ => by rw [(g.1.2.2 (y + 15) (by omega)).1], fun k _ => by rw [(g.1.2.2 (y + 16) (by omega)).1], fun k hk => g.2.1 k (by omega)⟩
theorem Pl.oo {k : Nat} {v : Int32} (hk : d < k) : Pl y d m c h (sI h (y + 15) k v) := ⟨Sm.sI, rfl, fun z a b e g => hI_sI_ne e, fun z a => rfl, fun j _ => by rw [hI_sI_ne (by omega)], fun j _ => by rw [hI_sI_eq, va_ne (by omega)], fun j _ => by rw [hI_sI_ne (by omega)], fun j _ => by rw [hI_sI_ne (by omega)]⟩
theorem Pl.cc {k : Nat} {v : Int32} (hk : m ≤ k) : Pl y d m c h (sI h (y + 16) k v) := ⟨Sm.sI, rfl, fun z a b e g => hI_sI_ne g, fun z a => rfl, fun j _ => by rw [hI_sI_ne (by omega)], fun j _ => by rw [hI_sI_ne (by omega)], fun j _ => by rw [hI_sI_eq, va_ne (by omega)], fun j _ => by rw [hI_sI_ne (by omega)]⟩
theorem Pl.kk {k : Nat} {v : Int32} (hk : c ≤ k) : Pl y d m c h (sI h (y + 14) k v) := ⟨Sm.sI, rfl, fun z a b e g => hI_sI_ne b, fun z a => rfl, fun j _ => by rw [hI_sI_eq, va_ne (by omega)], fun j _ => by rw [hI_sI_ne (by omega)], fun j _ => by rw [hI_sI_ne (by omega)], fun j _ => by rw [hI_sI_ne (by omega)]⟩
theorem Pl.yy {k : Nat} {v : Int32} (hk : k = 23) : Pl y d m c h (sI h y k v) := ⟨Sm.sI, rfl, fun z a b e g => hI_sI_ne a, fun z a => rfl, fun j _ => by rw [hI_sI_ne (by omega)], fun j _ => by rw [hI_sI_ne (by omega)], fun j _ => by rw [hI_sI_ne (by omega)], fun j _ => by rw [hI_sI_eq, va_ne (by omega)]⟩
theorem RZ.I3 {k : Nat} {v : Int32} (hk : 9 ≤ k) (z : RZ X y h p) : RZ X y (sI h y k v) p := by
  obtain ⟨⟨m, ok, r3, rt⟩, p1, p2, p3, p4, p5, p6⟩ := z
  have e : ∀ j, j < 9 → hI (sI h y k v) y j = hI h y j := fun j hj => by rw [hI_sI_eq, va_ne (by omega)]
  exact ⟨⟨m.sm Sm.sI, ok, by rw [e 3 (by decide)]; exact r3, by rw [hI_sI_ne (by omega)]; exact rt⟩, p1, by rw [e 4 (by decide)]; exact p2, by rw [e 5 (by decide)]; exact p3, by rw [e 6 (by decide)]; exact p4, p5, by rw [e 8 (by decide)]; exact p6⟩
theorem MLp.w {j k : Nat} {v : Int32} (hj : j = 15 ∨ j = 16) (l0 : MLp X y f l h p R) : MLp X y f l (sI h (y + j) k v) p R := by
  obtain ⟨a1, a2, a3, a4⟩ := l0
  have e0 : hI (sI h (y + j) k v) y = hI h y := hI_sI_ne (by omega)
  have e1 : hI (sI h (y + j) k v) (y + 14) = hI h (y + 14) := hI_sI_ne (by omega)
  exact ⟨a1.W (by omega), by rw [e0]; exact a2, by rw [e1]; exact a3, by rw [e0]; exact a4⟩
theorem MLp.rk {p' : Nat} (g : Rk y h h') (z : RZ X y h' p') (l0 : MLp X y f l h p R) : MLp X y f l h' p' R := by
  obtain ⟨a1, a2, a3, a4⟩ := l0
  refine ⟨z, (g.2.1 23 (by omega)).trans a2, ?_, (g.2.1 24 (by omega)).trans a4⟩
  rw [(g.1.2.2 (y + 14) (by omega)).1]
  exact a3
theorem MLp.puts {r : Nat} {v : Int32} (hv : v = nI r) (l0 : MLp X y f l h p R) (hc : f + R.length < 2000) : ∃ h1, f_X11_puts N y v h = some ((), h1) ∧ MLp X y f l h1 p (R ++ [r]) ∧ Pl y d m (f + R.length) h h1 ∧ hI h1 (y + 15) = hI h (y + 15) ∧ hI h1 (y + 16) = hI h (y + 16) := by
  obtain ⟨a1, a2, a3, a4⟩ := l0
  have M := a1.1.1
  have e0 : hI (sI h (y + 14) (f + R.length) v) y = hI h y := hI_sI_ne (by omega)
  have z1 : RZ X y (sI h (y + 14) (f + R.length) v) p := a1.W (by decide)
  refine ⟨sI (sI h (y + 14) (f + R.length) v) y 23 (nI (f + R.length + 1)), ?_, ⟨z1.I3 (by decide), ?_, fun k hk => ?_, ?_⟩, (Pl.kk (Nat.le_refl _)).trans (Pl.yy rfl), ?_, ?_⟩
  · unfold f_X11_puts
    rw [ck_p M.1, mR_codes M, rq_s, ck_p (mK_codes M), mN_codes M, a2, ck_p (nI_ix hc (by decide)), ix_nI (by omega), bd_e, ck_p z1.1.1.1, e0, a2, nI_1, bd_e]
  · rw [hI_sI_eq, va_eq, List.length_append]; rfl
  · rw [hI_sI_ne (by omega), hI_sI_eq]
    have hk : k < R.length + 1 := by simpa using hk
    by_cases ek : k = R.length
    · rw [ek, va_eq, getD_e, hv]
    · rw [va_ne (by omega), getD_l (by omega)]
      exact a3 k (by omega)
  · rw [hI_sI_eq, va_ne (by decide), e0]; exact a4
  · rw [hI_sI_ne (by omega), hI_sI_ne (by omega)]
  · rw [hI_sI_ne (by omega), hI_sI_ne (by omega)]
theorem MLs.e (l0 : MLs X y f l h q) : q.1 = (0, q.1.2) := ZS.e l0.1
theorem MLs.sg {v : Int32} (hv : v = nI c) (hc : c < 2 ^ 31) (l0 : MLs X y f l h q) : f_X11_isSign N y v h = some (yb (sSg X q.1 c), h) := by
  rw [hv, l0.e]
  exact m_isSign hc l0.2.1.1
theorem MLs.wd {i : Nat} {v : Int64} (hi : i < 27) (hv : v = lN (k27 i)) (l0 : MLs X y f l h q) : f_X11_isWord N y v h = some (yb (sWd X q.1 i), h) := by
  rw [l0.e]
  exact m_isWord hi hv l0.2.1.1
theorem MLs.bad {k : Nat} {v : Int32} (hv : v = nI k) (hk : 1 ≤ k) (l0 : MLs X y f l h q) : ∃ h', f_X11_fails N y v h = some (0, h') ∧ Pl y d m c h h' ∧ MRs X y h' (flt X k q.1) := by
  obtain ⟨h', a1, a2, a3⟩ := m_fails (N := N) (k := k) l0.2.1.1
  rw [hv, flt_0 l0.1]
  exact ⟨h', a1, a2.pl, MRs.f hk a3⟩
theorem sSg_x {s : ZS} {a b : Nat} (h : sSg X s a = true) (n : a ≠ b) : sSg X s b = false := sF_of (fun z => n ((sSg_i.mp h).2.2.symm.trans (sSg_i.mp z).2.2))
theorem sWd_x {s : ZS} {a b : Nat} (h : sWd X s a = true) : sSg X s b = false := sF_of (fun z => by
  have := (sWd_i.mp h).2.1
  have := (sSg_i.mp z).2.1
  omega)
/-- room for a code, and the place after a step -/
theorem MLs.room (l0 : MLs X y f l h q) (ht : xty X q.1.2 ≠ 0) : f + q.2.2.length < 2000 ∧ q.1.2 < xnx X q.1.2 ∧ xnx X q.1.2 ≤ 1000 := by
  have gt := xnx_gt' ht
  have le := xnx_le (X := X) l0.2.1.1.2.1
  have := l0.2.1.1.1.2.1.1
  have := l0.2.2
  omega
/-- a code, then a step -/
theorem MLs.nx (hN : 2000 ≤ N) {r : Nat} (l0 : MLs X y f l h q) (ht : xty X q.1.2 ≠ 0) {g : PH} (lp : MLp X y f l g q.1.2 (q.2.2 ++ [r])) : ∃ h', f_X11_nextToken N y g = some ((), h') ∧ MLs X y f l h' (qN X r q) ∧ Pl y d m c g h' ∧ hI h' (y + 15) = hI g (y + 15) ∧ hI h' (y + 16) = hI g (y + 16) := by
  obtain ⟨h', a1, a2, -, a4⟩ := m_next hN lp.1
  obtain ⟨r1, r2, r3⟩ := l0.room ht
  have e1 : (qN X r q).1 = (0, xnx X q.1.2) := stp_0 l0.1
  refine ⟨h', a1, ⟨by rw [e1], ?_, ?_⟩, a2.pl, (a2.1.2.2 _ (by omega)).1, (a2.1.2.2 _ (by omega)).1⟩
  · rw [e1]
    exact lp.rk a2 a4
  · rw [e1]
    show f + (q.2.2 ++ [r]).length ≤ 1000 + xnx X q.1.2
    have := l0.2.2
    simp
    omega
theorem r_237 (hN : 2000 ≤ N) {r : Nat} {v : Int32} (hv : v = nI r) (l0 : MLs X y f l h q) (ht : xty X q.1.2 ≠ 0) : ∃ h1, (∀ K, f_X11_reads_237 N K v y y (nI d) h = K y (nI d) 1 h1) ∧ MLs X y f l h1 (qN X r q) ∧ Pl y d m (f + q.2.2.length) h h1 ∧ hI h1 (y + 15) = hI h (y + 15) ∧ hI h1 (y + 16) = hI h (y + 16) := by
  obtain ⟨g, a1, a2, a3, a4, a5⟩ := l0.2.1.puts (N := N) (d := d) (m := m) hv (l0.room ht).1
  obtain ⟨h1, b1, b2, b3, b4, b5⟩ := l0.nx (d := d) (m := m) (c := f + q.2.2.length) hN ht a2
  refine ⟨h1, fun K => ?_, b2, a3.trans b3, b4.trans a4, b5.trans a5⟩
  unfold f_X11_reads_237 f_X11_reads_424
  rw [ck_p l0.2.1.1.1.1.1, a1, cl_s, ck_p a2.1.1.1.1, b1, cl_s]
/-- + - * -/
theorem r_op (hN : 2000 ≤ N) {r c : Nat} (hrc : (r = 20 ∧ c = 43) ∨ (r = 21 ∧ c = 45) ∨ (r = 22 ∧ c = 42)) (l0 : MLs X y f l h q) (hc : sSg X q.1 c = true) : ∃ h1, (∀ n, f_X11_reads_11 N (n + 1) y (nI d) 0 h = f_X11_reads_11 N n y (nI d) 1 h1) ∧ MLs X y f l h1 (qN X r q) ∧ Pl y d m (f + q.2.2.length) h h1 ∧ hI h1 (y + 15) = hI h (y + 15) ∧ hI h1 (y + 16) = hI h (y + 16) := by
  have K := l0.2.1.1.1.1.1
  obtain ⟨h1, a1, a2⟩ := r_237 (d := d) (m := m) (v := nI r) hN rfl l0 (sSg_t hc)
  refine ⟨h1, fun n => ?_, a2⟩
  show f_X11_reads_11_b N (f_X11_reads_11 N n) y (nI d) 0 h = _
  unfold f_X11_reads_11_b f_X11_reads_206
  have a1 := a1 (f_X11_reads_11 N n)
  have s43 := l0.sg (N := N) (v := 43) (c := 43) rfl (by decide)
  have s45 := l0.sg (N := N) (v := 45) (c := 45) rfl (by decide)
  rw [if_pos rfl, ck_p K, s43, cl_s, ite_i yb0]
  rcases hrc with ⟨rfl, rfl⟩ | ⟨rfl, rfl⟩ | ⟨rfl, rfl⟩
  · rw [if_neg (by rw [hc]; decide), ck_p K, s43, cl_s, ite_i yb0, if_neg (by rw [hc]; decide)]
    exact a1
  · have c43 := sSg_x (b := 43) hc (by decide)
    rw [if_pos c43, ck_p K, l0.sg (v := 45) (c := 45) rfl (by decide), cl_s, ite_i yb0, if_neg (by rw [hc]; decide), ck_p K, s43, cl_s, ite_i yb0, if_pos c43, ck_p K, s45, cl_s, ite_i yb0, if_neg (by rw [hc]; decide)]
    exact a1
  · have c43 := sSg_x (b := 43) hc (by decide)
    have c45 := sSg_x (b := 45) hc (by decide)
    rw [if_pos c43, ck_p K, l0.sg (v := 45) (c := 45) rfl (by decide), cl_s, ite_i yb0, if_pos c45, ck_p K, l0.sg (v := 42) (c := 42) rfl (by decide), cl_s, ite_i yb0, if_neg (by rw [hc]; decide), ck_p K, s43, cl_s, ite_i yb0, if_pos c43, ck_p K, s45, cl_s, ite_i yb0, if_pos c45]
    exact a1
end MLW
