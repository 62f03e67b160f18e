/-! The reference's tape. -/
def RB (X : TX) (y : Nat) (h : PH) : Prop := MD h y ∧ TXok X ∧ hI h y 3 = nI X.1 ∧ ∀ k, k < X.1 → hI h (y + 1) k = nI (X.2 k)
/-- the reference stands at the token behind p -/
def RZ (X : TX) (y : Nat) (h : PH) (p : Nat) : Prop := RB X y h ∧ p ≤ X.1 ∧ hI h y 4 = nI (xnx X p) ∧ hI h y 5 = nI (xbg X p) ∧ hI h y 6 = nI (xty X p) ∧ (xty X p = 1 → hJ h y 7 = lN (u27 (xwv X p))) ∧ (xty X p = 2 → hI h y 8 = nI (xnv X p))
/-- all cells but the reference's own slots stay -/
def Rx (y : Nat) (h h' : PH) : Prop := Sm h h' ∧ hz h' = hz h ∧ ∀ z, z ≠ y → hI h' z = hI h z ∧ hJ h' z = hJ h z
def Ry (y : Nat) (h h' : PH) : Prop := (∀ k, k ≠ 4 → k ≠ 5 → k ≠ 6 → k ≠ 8 → hI h' y k = hI h y k) ∧ ∀ k, k ≠ 7 → hJ h' y k = hJ h y k
section MLX
variable {N y : Nat} {X : TX}
theorem Rx.rf {h : PH} : Rx y h h := ⟨Sm.rfl', rfl, fun _ _ => ⟨rfl, rfl⟩⟩
theorem Rx.trans {h h1 h2 : PH} (p : Rx y h h1) (q : Rx y h1 h2) : Rx y h h2 := ⟨p.1.trans q.1, q.2.1.trans p.2.1, fun z hz => ⟨(q.2.2 z hz).1.trans (p.2.2 z hz).1, (q.2.2 z hz).2.trans (p.2.2 z hz).2⟩⟩
theorem Rx.I {h : PH} {k : Nat} {v : Int32} : Rx y h (sI h y k v) := ⟨Sm.sI, rfl, fun z hz => ⟨hI_sI_ne hz, rfl⟩⟩
theorem Rx.J {h : PH} {k : Nat} {v : Int64} : Rx y h (sJ h y k v) := ⟨Sm.sJ, rfl, fun z hz => ⟨rfl, by rw [hJ_sJ]; exact up2_a _ _ _ hz⟩⟩
theorem Ry.rf {h : PH} : Ry y h h := ⟨fun _ _ _ _ _ => rfl, fun _ _ => rfl⟩
theorem Ry.trans {h h1 h2 : PH} (p : Ry y h h1) (q : Ry y h1 h2) : Ry y h h2 := ⟨fun k a b c d => (q.1 k a b c d).trans (p.1 k a b c d), fun k a => (q.2 k a).trans (p.2 k a)⟩
theorem Ry.I {h : PH} {k : Nat} {v : Int32} (hk : k = 4 ∨ k = 5 ∨ k = 6 ∨ k = 8) : Ry y h (sI h y k v) := ⟨fun j a b c d => by rw [hI_sI_eq, va_ne (by omega)], fun _ _ => rfl⟩
theorem Ry.J {h : PH} {v : Int64} : Ry y h (sJ h y 7 v) := ⟨fun j a b c d => rfl, fun j a => by rw [hJ_sJ]; exact up2_k _ _ _ a⟩
theorem RB.rx {h h' : PH} (g : Rx y h h') (e : hI h' y 3 = hI h y 3) (p : RB X y h) : RB X y h' := ⟨p.1.sm g.1, p.2.1, e.trans p.2.2.1, fun k hk => by rw [(g.2.2 (y + 1) (by omega)).1]; exact p.2.2.2 k hk⟩
theorem m_signAt {h : PH} (hX : RB X y h) {k : Nat} (hk : k < 2 ^ 31) : f_X11_signAt N y (nI k) h = some (if k < X.1 then nI (X.2 k) else 0, h) := by
  obtain ⟨m, ⟨l1, l2⟩, e3, et⟩ := hX
  unfold f_X11_signAt
  rw [ck_p m.1, e3, ite_i (nI_leI (by omega) (by omega))]
  by_cases c : X.1 ≤ k
  · rw [if_pos c, if_neg (by omega)]
  · rw [if_neg c, mR_tape m, rq_s, ck_p (mK_tape m), mN_tape m, ck_p (nI_ix (by omega) (by decide)), ix_nI (by omega), if_pos (by omega), et k (by omega)]
/-- blanks are left out -/
theorem m_sk0 : ∀ (n p : Nat) (h : PH), X.1 < n + p → p ≤ X.1 → RB X y h → hI h y 4 = nI p → ∃ h', f_X11_nextToken_0 N n y h = f_X11_nextToken_52 N y h' ∧ Rx y h h' ∧ Ry y h h' ∧ hI h' y 4 = nI (xbg X p)
  | 0, p, h, h1, h2, _, _ => by omega
  | n + 1, p, h, h1, h2, rb, e4 => by
    obtain ⟨m, ⟨l1, l2⟩, e3, et⟩ := id rb
    show ∃ h', f_X11_nextToken_0_b N (f_X11_nextToken_0 N n) y h = _ ∧ _
    unfold f_X11_nextToken_0_b f_X11_nextToken_39
    rw [ck_p m.1, e3, e4, ite_i (nI_leI (by omega) (by omega))]
    by_cases c : X.1 ≤ p
    · rw [if_pos c]
      refine ⟨h, rfl, Rx.rf, Ry.rf, ?_⟩
      unfold xbg
      rw [xrun_out (fun z => by have := (xin_iff.mp z).1; omega)]
      exact e4
    · have ch := l2 p (by omega)
      have jp : inb (nI p) 1000 := nI_ix (by omega) (by decide)
      have xp : ix (nI p) = p := ix_nI (by omega)
      have e32 : nI (X.2 p) = (32 : Int32) ↔ X.2 p = 32 := nI_eq (b := 32) (by omega) (by decide)
      have e10 : nI (X.2 p) = (10 : Int32) ↔ X.2 p = 10 := nI_eq (b := 10) (by omega) (by decide)
      rw [if_neg c, mR_tape m, rq_s, ck_p (mK_tape m), mN_tape m, ck_p jp, xp, et p (by omega), ite_i e32]
      have go : isB (X.2 p) = true → ∃ h', (ck (hK h y = 10) <| bd (sI h y 4 (nI p + (1 : Int32))) fun h2 => f_X11_nextToken_0 N n y h2) = f_X11_nextToken_52 N y h' ∧ Rx y h h' ∧ Ry y h h' ∧ hI h' y 4 = nI (xbg X p) := fun q => by
        have f1 : hI (sI h y 4 (nI (p + 1))) y = va_up (hI h y) 4 (nI (p + 1)) := hI_sI_eq
        obtain ⟨h', r1, r2, r3, r4⟩ := m_sk0 n (p + 1) (sI h y 4 (nI (p + 1))) (by omega) (by omega) (rb.rx Rx.I (by rw [f1, va_ne (by decide)])) (by rw [f1, va_eq])
        refine ⟨h', ?_, Rx.I.trans r2, (Ry.I (Or.inl rfl)).trans r3, ?_⟩
        · rw [ck_p m.1, nI_1, bd_e]
          exact r1
        · rw [r4]
          unfold xbg
          rw [xrun_in (p := p) (xin_iff.mpr ⟨by omega, q⟩)]
      by_cases q1 : X.2 p = 32
      · rw [if_pos q1]
        exact go (isB_iff.mpr (Or.inl q1))
      · rw [if_neg q1, rq_s, ck_p (mK_tape m), mN_tape m, ck_p jp, et p (by omega), ite_i e10]
        by_cases q2 : X.2 p = 10
        · rw [if_pos q2]
          exact go (isB_iff.mpr (Or.inr q2))
        · rw [if_neg q2]
          refine ⟨h, rfl, Rx.rf, Ry.rf, ?_⟩
          unfold xbg
          rw [xrun_out (fun z => by
            rcases isB_iff.mp (xin_iff.mp z).2 with e | e
            · exact q1 e
            · exact q2 e)]
          exact e4
/-- the letters of a word, the first eight of them kept -/
theorem m_tw {b : Nat} (hb : b ≤ X.1) : ∀ (n k : Nat) (h : PH), X.1 < n + (b + k) → b + k ≤ X.1 → xrun X isL b = xrun X isL (b + k) → RB X y h → hI h y 4 = nI (b + k) → hI h y 5 = nI b → hJ h y 7 = lN (t27 (min k 8) (xtW X.2 b (min k 8))) → ∃ h', f_X11_nextToken_109 N n y h = f_X11_nextToken_188 N y h' ∧ Rx y h h' ∧ Ry y h h' ∧ hI h' y 4 = nI (xrun X isL b) ∧ hI h' y 5 = nI b ∧ hJ h' y 7 = lN (t27 (min (xrun X isL b - b) 8) (xtW X.2 b (min (xrun X isL b - b) 8)))
  | 0, k, h, h1, h2, _, _, _, _, _ => by omega
  | n + 1, k, h, h1, h2, er, rb, e4, e5, e7 => by
    obtain ⟨m, ⟨l1, l2⟩, e3, et⟩ := id rb
    have fin : ¬ xin X isL (b + k) = true → ∃ h', f_X11_nextToken_188 N y h = f_X11_nextToken_188 N y h' ∧ Rx y h h' ∧ Ry y h h' ∧ hI h' y 4 = nI (xrun X isL b) ∧ hI h' y 5 = nI b ∧ hJ h' y 7 = lN (t27 (min (xrun X isL b - b) 8) (xtW X.2 b (min (xrun X isL b - b) 8))) := fun z => by
      have e : xrun X isL b = b + k := er.trans (xrun_out z)
      refine ⟨h, rfl, Rx.rf, Ry.rf, by rw [e]; exact e4, e5, ?_⟩
      rw [e, show b + k - b = k by omega]
      exact e7
    show ∃ h', f_X11_nextToken_109_b N (f_X11_nextToken_109 N n) y h = _ ∧ _
    unfold f_X11_nextToken_109_b
    rw [ck_p m.1, e4, m_signAt rb (by omega), cl_s]
    by_cases c : b + k < X.1
    rotate_left
    · rw [if_neg c, if_pos (by decide)]
      exact fin (fun z => c (xin_iff.mp z).1)
    have ch := l2 (b + k) c
    rw [if_pos c, ite_i (show nI (X.2 (b + k)) < (97 : Int32) ↔ X.2 (b + k) < 97 from nI_ltI (b := 97) (by omega) (by decide))]
    by_cases q1 : X.2 (b + k) < 97
    · rw [if_pos q1]
      exact fin (fun z => by have := isL_iff.mp (xin_iff.mp z).2; omega)
    rw [if_neg q1, ck_p m.1, e4, m_signAt rb (by omega), cl_s, if_pos c, ite_i (show (122 : Int32) < nI (X.2 (b + k)) ↔ 122 < X.2 (b + k) from nI_ltI (a := 122) (by decide) (by omega))]
    by_cases q2 : 122 < X.2 (b + k)
    · rw [if_pos q2]
      exact fin (fun z => by have := isL_iff.mp (xin_iff.mp z).2; omega)
    have er' : xrun X isL b = xrun X isL (b + (k + 1)) := by rw [er, xrun_in (xin_iff.mpr ⟨c, isL_iff.mpr ⟨by omega, by omega⟩⟩)]; rfl
    rw [if_neg q2, ck_p m.1, e5, e4, pk_sub (show b ≤ b + k by omega), show b + k - b = k by omega, ite_i (show (8 : Int32) ≤ nI k ↔ 8 ≤ k from nI_leI (a := 8) (by decide) (by omega))]
    unfold f_X11_nextToken_175
    by_cases q3 : 8 ≤ k
    · have f1 : hI (sI h y 4 (nI (b + (k + 1)))) y = va_up (hI h y) 4 (nI (b + (k + 1))) := hI_sI_eq
      obtain ⟨h', r1, r2, r3, r4⟩ := m_tw hb n (k + 1) (sI h y 4 (nI (b + (k + 1)))) (by omega) (by omega) er' (rb.rx Rx.I (by rw [f1, va_ne (by decide)])) (by rw [f1, va_eq]) (by rw [f1, va_ne (by decide)]; exact e5) (by
        rw [show min (k + 1) 8 = min k 8 by omega]
        exact e7)
      refine ⟨h', ?_, Rx.I.trans r2, (Ry.I (Or.inl rfl)).trans r3, r4⟩
      rw [if_pos q3, ck_p m.1, e4, nI_1, bd_e]
      exact r1
    · have ev : (((hJ h y 7) * (27 : Int64)) + (nI (X.2 (b + k))).toInt64) - (96 : Int64) = lN (t27 (k + 1) (xtW X.2 b (k + 1))) := by
        rw [e7, show min k 8 = k by omega, nI_l (by omega), show (27 : Int64) = lN 27 from rfl, lN_mul, lN_add, show (96 : Int64) = lN 96 from rfl, lN_sub (by omega), t27_s ⟨by omega, by omega⟩]
        congr 1
        omega
      have f1 : hI (sI (sJ h y 7 (lN (t27 (k + 1) (xtW X.2 b (k + 1))))) y 4 (nI (b + (k + 1)))) y = va_up (hI h y) 4 (nI (b + (k + 1))) := hI_sI_eq
      have j1 : hJ (sI (sJ h y 7 (lN (t27 (k + 1) (xtW X.2 b (k + 1))))) y 4 (nI (b + (k + 1)))) y 7 = lN (t27 (k + 1) (xtW X.2 b (k + 1))) := up2_self _ _ _ _
      have R : Rx y h (sI (sJ h y 7 (lN (t27 (k + 1) (xtW X.2 b (k + 1))))) y 4 (nI (b + (k + 1)))) := Rx.J.trans Rx.I
      have RY : Ry y h (sI (sJ h y 7 (lN (t27 (k + 1) (xtW X.2 b (k + 1))))) y 4 (nI (b + (k + 1)))) := Ry.J.trans (Ry.I (Or.inl rfl))
      obtain ⟨h', r1, r2, r3, r4⟩ := m_tw hb n (k + 1) _ (by omega) (by omega) er' (rb.rx R (by rw [f1, va_ne (by decide)])) (by rw [f1, va_eq]) (by rw [f1, va_ne (by decide)]; exact e5) (by
        rw [show min (k + 1) 8 = k + 1 by omega]
        exact j1)
      refine ⟨h', ?_, R.trans r2, RY.trans r3, r4⟩
      have mk : MD (sJ h y 7 (lN (t27 (k + 1) (xtW X.2 b (k + 1))))) y := m.sm Sm.sJ
      rw [if_neg q3, m_signAt rb (by omega), cl_s, ck_p m.1, if_pos c, ev, bd_e, ck_p mk.1, hI_sJ, e4, nI_1, bd_e]
      exact r1
/-- the digits of a number, the first four of them kept -/
theorem m_tn {b : Nat} (hb : b ≤ X.1) : ∀ (n k : Nat) (h : PH), X.1 < n + (b + k) → b + k ≤ X.1 → xrun X isD b = xrun X isD (b + k) → RB X y h → hI h y 4 = nI (b + k) → hI h y 5 = nI b → hI h y 8 = nI (xdW X.2 b (min k 4)) → ∃ h', f_X11_nextToken_224 N n y h = f_X11_nextToken_299 N y h' ∧ Rx y h h' ∧ Ry y h h' ∧ hI h' y 4 = nI (xrun X isD b) ∧ hI h' y 5 = nI b ∧ hI h' y 8 = nI (xdW X.2 b (min (xrun X isD b - b) 4))
  | 0, k, h, h1, h2, _, _, _, _, _ => by omega
  | n + 1, k, h, h1, h2, er, rb, e4, e5, e8 => by
    obtain ⟨m, ⟨l1, l2⟩, e3, et⟩ := id rb
    have fin : ¬ xin X isD (b + k) = true → ∃ h', f_X11_nextToken_299 N y h = f_X11_nextToken_299 N y h' ∧ Rx y h h' ∧ Ry y h h' ∧ hI h' y 4 = nI (xrun X isD b) ∧ hI h' y 5 = nI b ∧ hI h' y 8 = nI (xdW X.2 b (min (xrun X isD b - b) 4)) := fun z => by
      have e : xrun X isD b = b + k := er.trans (xrun_out z)
      refine ⟨h, rfl, Rx.rf, Ry.rf, by rw [e]; exact e4, e5, ?_⟩
      rw [e, show b + k - b = k by omega]
      exact e8
    show ∃ h', f_X11_nextToken_224_b N (f_X11_nextToken_224 N n) y h = _ ∧ _
    unfold f_X11_nextToken_224_b
    rw [ck_p m.1, e4, m_signAt rb (by omega), cl_s]
    by_cases c : b + k < X.1
    rotate_left
    · rw [if_neg c, if_pos (by decide)]
      exact fin (fun z => c (xin_iff.mp z).1)
    have ch := l2 (b + k) c
    rw [if_pos c, ite_i (show nI (X.2 (b + k)) < (48 : Int32) ↔ X.2 (b + k) < 48 from nI_ltI (b := 48) (by omega) (by decide))]
    by_cases q1 : X.2 (b + k) < 48
    · rw [if_pos q1]
      exact fin (fun z => by have := isD_iff.mp (xin_iff.mp z).2; omega)
    rw [if_neg q1, ck_p m.1, e4, m_signAt rb (by omega), cl_s, if_pos c, ite_i (show (57 : Int32) < nI (X.2 (b + k)) ↔ 57 < X.2 (b + k) from nI_ltI (a := 57) (by decide) (by omega))]
    by_cases q2 : 57 < X.2 (b + k)
    · rw [if_pos q2]
      exact fin (fun z => by have := isD_iff.mp (xin_iff.mp z).2; omega)
    have er' : xrun X isD b = xrun X isD (b + (k + 1)) := by rw [er, xrun_in (xin_iff.mpr ⟨c, isD_iff.mpr ⟨by omega, by omega⟩⟩)]; rfl
    rw [if_neg q2, ck_p m.1, e5, e4, pk_sub (show b ≤ b + k by omega), show b + k - b = k by omega, ite_i (show (4 : Int32) ≤ nI k ↔ 4 ≤ k from nI_leI (a := 4) (by decide) (by omega))]
    unfold f_X11_nextToken_286
    by_cases q3 : 4 ≤ k
    · have f1 : hI (sI h y 4 (nI (b + (k + 1)))) y = va_up (hI h y) 4 (nI (b + (k + 1))) := hI_sI_eq
      obtain ⟨h', r1, r2, r3, r4⟩ := m_tn hb n (k + 1) (sI h y 4 (nI (b + (k + 1)))) (by omega) (by omega) er' (rb.rx Rx.I (by rw [f1, va_ne (by decide)])) (by rw [f1, va_eq]) (by rw [f1, va_ne (by decide)]; exact e5) (by
        rw [f1, va_ne (by decide), show min (k + 1) 4 = min k 4 by omega]
        exact e8)
      refine ⟨h', ?_, Rx.I.trans r2, (Ry.I (Or.inl rfl)).trans r3, r4⟩
      rw [if_pos q3, ck_p m.1, e4, nI_1, bd_e]
      exact r1
    · have ev : (((hI h y 8) * (10 : Int32)) + nI (X.2 (b + k))) - (48 : Int32) = nI (xdW X.2 b (k + 1)) := by
        rw [e8, show min k 4 = k by omega, show (10 : Int32) = nI 10 from rfl, pk_mul, nI_add, show (48 : Int32) = nI 48 from rfl, pk_sub (by omega)]
        show nI (xdW X.2 b k * 10 + X.2 (b + k) - 48) = nI (xdW X.2 b k * 10 + (X.2 (b + k) - 48))
        congr 1
        omega
      have f0 : hI (sI h y 8 (nI (xdW X.2 b (k + 1)))) y = va_up (hI h y) 8 (nI (xdW X.2 b (k + 1))) := hI_sI_eq
      have f1 : hI (sI (sI h y 8 (nI (xdW X.2 b (k + 1)))) y 4 (nI (b + (k + 1)))) y = va_up (va_up (hI h y) 8 (nI (xdW X.2 b (k + 1)))) 4 (nI (b + (k + 1))) := by rw [hI_sI_eq, f0]
      have R : Rx y h (sI (sI h y 8 (nI (xdW X.2 b (k + 1)))) y 4 (nI (b + (k + 1)))) := Rx.I.trans Rx.I
      have RY : Ry y h (sI (sI h y 8 (nI (xdW X.2 b (k + 1)))) y 4 (nI (b + (k + 1)))) := (Ry.I (Or.inr (Or.inr (Or.inr rfl)))).trans (Ry.I (Or.inl rfl))
      obtain ⟨h', r1, r2, r3, r4⟩ := m_tn hb n (k + 1) _ (by omega) (by omega) er' (rb.rx R (by rw [f1, va_ne (by decide), va_ne (by decide)])) (by rw [f1, va_eq]) (by rw [f1, va_ne (by decide), va_ne (by decide)]; exact e5) (by
        rw [f1, va_ne (by decide), va_eq, show min (k + 1) 4 = k + 1 by omega])
      refine ⟨h', ?_, R.trans r2, RY.trans r3, r4⟩
      have mk : MD (sI h y 8 (nI (xdW X.2 b (k + 1)))) y := m.sm Sm.sI
      rw [if_neg q3, m_signAt rb (by omega), cl_s, ck_p m.1, if_pos c, ev, bd_e, ck_p mk.1, f0, va_ne (by decide), e4, nI_1, bd_e]
      exact r1
theorem m_nextToken (hN : 2000 ≤ N) {p : Nat} (hp : p ≤ X.1) {h : PH} (rb : RB X y h) (e4 : hI h y 4 = nI p) : ∃ h', f_X11_nextToken N y h = some ((), h') ∧ Rx y h h' ∧ Ry y h h' ∧ RZ X y h' p := by
  have hb := xbg_le (X := X) hp
  have l1 := rb.2.1.1
  obtain ⟨ga, r1, r2, r3, r4⟩ := m_sk0 (N := N) (y := y) (X := X) N p h (by omega) hp rb e4
  have ma : MD ga y := rb.1.sm r2.1
  -- begin, word, told
  have f1 : hI (sI (sJ (sI ga y 5 (nI (xbg X p))) y 7 (0 : Int64)) y 8 0) y = va_up (va_up (hI ga y) 5 (nI (xbg X p))) 8 0 := by
    rw [hI_sI_eq, hI_sJ, hI_sI_eq]
  have j1 : hJ (sI (sJ (sI ga y 5 (nI (xbg X p))) y 7 (0 : Int64)) y 8 0) y 7 = 0 := up2_self _ _ _ _
  have R1 : Rx y h (sI (sJ (sI ga y 5 (nI (xbg X p))) y 7 (0 : Int64)) y 8 0) := ((r2.trans Rx.I).trans Rx.J).trans Rx.I
  have Y1 : Ry y h (sI (sJ (sI ga y 5 (nI (xbg X p))) y 7 (0 : Int64)) y 8 0) := ((r3.trans (Ry.I (Or.inr (Or.inl rfl)))).trans Ry.J).trans (Ry.I (Or.inr (Or.inr (Or.inr rfl))))
  have un1 : f_X11_nextToken N y h = (ck (hK (sI (sJ (sI ga y 5 (nI (xbg X p))) y 7 (0 : Int64)) y 8 0) y = 10) <| if (hI (sI (sJ (sI ga y 5 (nI (xbg X p))) y 7 (0 : Int64)) y 8 0) y 4) = (hI (sI (sJ (sI ga y 5 (nI (xbg X p))) y 7 (0 : Int64)) y 8 0) y 3) then bd (sI (sI (sJ (sI ga y 5 (nI (xbg X p))) y 7 (0 : Int64)) y 8 0) y 6 (0 : Int32)) fun h15 => some ((), h15) else rq (hR (sI (sJ (sI ga y 5 (nI (xbg X p))) y 7 (0 : Int64)) y 8 0) y 2) fun a9 => ck (hK (sI (sJ (sI ga y 5 (nI (xbg X p))) y 7 (0 : Int64)) y 8 0) a9 = 12) <| ck (inb (hI (sI (sJ (sI ga y 5 (nI (xbg X p))) y 7 (0 : Int64)) y 8 0) y 4) (COneSmokeLaw_law_r9589_37766e.hN (sI (sJ (sI ga y 5 (nI (xbg X p))) y 7 (0 : Int64)) y 8 0) a9)) <| bd ((hI (sI (sJ (sI ga y 5 (nI (xbg X p))) y 7 (0 : Int64)) y 8 0) a9 (ix (hI (sI (sJ (sI ga y 5 (nI (xbg X p))) y 7 (0 : Int64)) y 8 0) y 4)))) fun v12 => if v12 < (97 : Int32) then f_X11_nextToken_212 N y v12 (sI (sJ (sI ga y 5 (nI (xbg X p))) y 7 (0 : Int64)) y 8 0) else if (122 : Int32) < v12 then f_X11_nextToken_212 N y v12 (sI (sJ (sI ga y 5 (nI (xbg X p))) y 7 (0 : Int64)) y 8 0) else f_X11_nextToken_109 N N y (sI (sJ (sI ga y 5 (nI (xbg X p))) y 7 (0 : Int64)) y 8 0)) := by
    unfold f_X11_nextToken
    rw [r1]
    unfold f_X11_nextToken_52
    have k1 : MD (sI ga y 5 (nI (xbg X p))) y := ma.sm Sm.sI
    have k2 : MD (sJ (sI ga y 5 (nI (xbg X p))) y 7 (0 : Int64)) y := k1.sm Sm.sJ
    rw [ck_p ma.1, r4, bd_e, ck_p k1.1, bd_e, ck_p k2.1, bd_e]
  rw [un1]
  generalize sI (sJ (sI ga y 5 (nI (xbg X p))) y 7 (0 : Int64)) y 8 0 = g at f1 j1 R1 Y1
  have g3 : hI g y 3 = hI h y 3 := Y1.1 3 (by decide) (by decide) (by decide) (by decide)
  have rg : RB X y g := rb.rx R1 g3
  obtain ⟨m, ⟨-, l2⟩, e3, et⟩ := id rg
  have e4g : hI g y 4 = nI (xbg X p) := by rw [f1, va_ne (by decide), va_ne (by decide)]; exact r4
  have e5g : hI g y 5 = nI (xbg X p) := by rw [f1, va_ne (by decide), va_eq]
  have e8g : hI g y 8 = 0 := by rw [f1, va_eq]
  -- the end of it
  have out : ∀ (g1 : PH) (v : Int32), Rx y h g1 → Ry y h g1 → v = nI (xty X p) → hI g1 y 4 = nI (xnx X p) → hI g1 y 5 = nI (xbg X p) → (xty X p = 1 → hJ g1 y 7 = lN (u27 (xwv X p))) → (xty X p = 2 → hI g1 y 8 = nI (xnv X p)) → ∃ h', (ck (hK g1 y = 10) <| bd (sI g1 y 6 v) fun h2 => some ((), h2)) = some ((), h') ∧ Rx y h h' ∧ Ry y h h' ∧ RZ X y h' p := fun g1 v a1 a2 a3 a4 a5 a6 a7 => by
    have f2 : hI (sI g1 y 6 v) y = va_up (hI g1 y) 6 v := hI_sI_eq
    rw [ck_p (rb.1.sm a1.1).1, bd_e]
    refine ⟨_, rfl, a1.trans Rx.I, a2.trans (Ry.I (Or.inr (Or.inr (Or.inl rfl)))), rb.rx (a1.trans Rx.I) (by rw [f2, va_ne (by decide)]; exact a2.1 3 (by decide) (by decide) (by decide) (by decide)), hp, ?_, ?_, ?_, a6, fun z => ?_⟩
    · rw [f2, va_ne (by decide)]; exact a4
    · rw [f2, va_ne (by decide)]; exact a5
    · rw [f2, va_eq]; exact a3
    · rw [f2, va_ne (by decide)]; exact a7 z
  rw [ck_p m.1, e4g, e3, ite_i (nI_eq (by omega) (by omega))]
  by_cases c : xbg X p = X.1
  · obtain ⟨s1, s2⟩ := xs_0 (X := X) (p := p) (by omega)
    have := out g 0 R1 Y1 (by rw [s1]; rfl) (by rw [s2]; exact e4g) e5g (fun z => by omega) (fun z => by omega)
    rw [ck_p m.1] at this
    rw [if_pos c]
    exact this
  have nc : ¬ X.1 ≤ xbg X p := by omega
  have ch := l2 (xbg X p) (by omega)
  rw [if_neg c, mR_tape m, rq_s, ck_p (mK_tape m), mN_tape m, ck_p (nI_ix (by omega) (by decide)), ix_nI (by omega), et (xbg X p) (by omega), bd_e, ite_i (show nI (X.2 (xbg X p)) < (97 : Int32) ↔ X.2 (xbg X p) < 97 from nI_ltI (b := 97) (by omega) (by decide)), ite_i (show (122 : Int32) < nI (X.2 (xbg X p)) ↔ 122 < X.2 (xbg X p) from nI_ltI (a := 122) (by decide) (by omega))]
  by_cases qL : isL (X.2 (xbg X p)) = true
  · have qq := isL_iff.mp qL
    obtain ⟨s1, s2⟩ := xs_L nc qL
    have gt := xrun_gt (X := X) (c := isL) (p := xbg X p) (xin_iff.mpr ⟨by omega, qL⟩)
    have le := xrun_le (X := X) (c := isL) hb
    obtain ⟨g1, t1, t2, t3, t4, t5, t6⟩ := m_tw (N := N) (y := y) (X := X) (b := xbg X p) hb N 0 g (by omega) (by omega) rfl rg e4g e5g (by rw [j1]; rfl)
    have R2 := R1.trans t2
    have Y2 := Y1.trans t3
    have m1 : MD g1 y := rb.1.sm R2.1
    rw [if_neg (by omega), if_neg (by omega), t1]
    unfold f_X11_nextToken_188 f_X11_nextToken_208
    rw [ck_p m1.1, t4, t5, pk_sub (by omega), ite_i (show nI (xrun X isL (xbg X p) - xbg X p) ≤ (8 : Int32) ↔ xrun X isL (xbg X p) - xbg X p ≤ 8 from nI_leI (b := 8) (by omega) (by decide))]
    by_cases q : xrun X isL (xbg X p) - xbg X p ≤ 8
    · rw [if_pos q] at s1
      have t6' : hJ g1 y 7 = lN (u27 (xwv X p)) := by
        have w3 : W3 (xrun X isL (xbg X p) - xbg X p) (xtW X.2 (xbg X p) (xrun X isL (xbg X p) - xbg X p)) := xtW_W _ (fun k hk => isL_iff.mp (xrun_all (X := X) (c := isL) (p := xbg X p) (by omega) (by omega)))
        unfold xwv
        rw [t6, s2, show min (xrun X isL (xbg X p) - xbg X p) 8 = xrun X isL (xbg X p) - xbg X p by omega, Wrd.u w3 q]
      rw [if_pos q]
      exact out g1 1 R2 Y2 (by rw [s1]; rfl) (by rw [s2]; exact t4) t5 (fun _ => t6') (fun z => by omega)
    · rw [if_neg q] at s1
      rw [if_neg q]
      exact out g1 4 R2 Y2 (by rw [s1]; rfl) (by rw [s2]; exact t4) t5 (fun z => by omega) (fun z => by omega)
  have go : ∃ h', f_X11_nextToken_212 N y (nI (X.2 (xbg X p))) g = some ((), h') ∧ Rx y h h' ∧ Ry y h h' ∧ RZ X y h' p := by
    unfold f_X11_nextToken_212
    rw [ite_i (show nI (X.2 (xbg X p)) < (48 : Int32) ↔ X.2 (xbg X p) < 48 from nI_ltI (b := 48) (by omega) (by decide)), ite_i (show (57 : Int32) < nI (X.2 (xbg X p)) ↔ 57 < X.2 (xbg X p) from nI_ltI (a := 57) (by decide) (by omega))]
    by_cases qD : isD (X.2 (xbg X p)) = true
    · have qq := isD_iff.mp qD
      obtain ⟨s1, s2⟩ := xs_D nc qL qD
      have gt := xrun_gt (X := X) (c := isD) (p := xbg X p) (xin_iff.mpr ⟨by omega, qD⟩)
      have le := xrun_le (X := X) (c := isD) hb
      obtain ⟨g1, t1, t2, t3, t4, t5, t6⟩ := m_tn (N := N) (y := y) (X := X) (b := xbg X p) hb N 0 g (by omega) (by omega) rfl rg e4g e5g (by rw [e8g]; rfl)
      have R2 := R1.trans t2
      have Y2 := Y1.trans t3
      have m1 : MD g1 y := rb.1.sm R2.1
      rw [if_neg (by omega), if_neg (by omega), t1]
      unfold f_X11_nextToken_299 f_X11_nextToken_318
      rw [ck_p m1.1, t4, t5, pk_sub (by omega), ite_i (show nI (xrun X isD (xbg X p) - xbg X p) ≤ (4 : Int32) ↔ xrun X isD (xbg X p) - xbg X p ≤ 4 from nI_leI (b := 4) (by omega) (by decide))]
      by_cases q : xrun X isD (xbg X p) - xbg X p ≤ 4
      · rw [if_pos q] at s1
        have t6' : hI g1 y 8 = nI (xnv X p) := by
          unfold xnv
          rw [t6, s2, show min (xrun X isD (xbg X p) - xbg X p) 4 = xrun X isD (xbg X p) - xbg X p by omega]
        rw [if_pos q]
        exact out g1 2 R2 Y2 (by rw [s1]; rfl) (by rw [s2]; exact t4) t5 (fun z => by omega) (fun _ => t6')
      · rw [if_neg q] at s1
        rw [if_neg q]
        exact out g1 4 R2 Y2 (by rw [s1]; rfl) (by rw [s2]; exact t4) t5 (fun z => by omega) (fun z => by omega)
    · obtain ⟨s1, s2⟩ := xs_G nc qL qD
      have nd : X.2 (xbg X p) < 48 ∨ 57 < X.2 (xbg X p) := by
        by_cases a : X.2 (xbg X p) < 48
        · exact Or.inl a
        · exact Or.inr (Nat.lt_of_not_le (fun z => qD (isD_iff.mpr ⟨by omega, z⟩)))
      have f2 : hI (sI g y 4 (nI (xbg X p + 1))) y = va_up (hI g y) 4 (nI (xbg X p + 1)) := hI_sI_eq
      have R2 : Rx y h (sI g y 4 (nI (xbg X p + 1))) := R1.trans Rx.I
      have Y2 : Ry y h (sI g y 4 (nI (xbg X p + 1))) := Y1.trans (Ry.I (Or.inl rfl))
      have go3 : ∃ h', f_X11_nextToken_322 N y (nI (X.2 (xbg X p))) g = some ((), h') ∧ Rx y h h' ∧ Ry y h h' ∧ RZ X y h' p := by
        unfold f_X11_nextToken_322 f_X11_nextToken_345 f_X11_nextToken_363 f_X11_nextToken_367 f_X11_nextToken_368
        rw [ck_p m.1, e4g, nI_1, bd_e, ite_i (show nI (X.2 (xbg X p)) < (40 : Int32) ↔ X.2 (xbg X p) < 40 from nI_ltI (b := 40) (by omega) (by decide)), ite_i (show nI (X.2 (xbg X p)) ≤ (43 : Int32) ↔ X.2 (xbg X p) ≤ 43 from nI_leI (b := 43) (by omega) (by decide)), ite_i (show nI (X.2 (xbg X p)) = (45 : Int32) ↔ X.2 (xbg X p) = 45 from nI_eq (b := 45) (by omega) (by decide)), ite_i (show nI (X.2 (xbg X p)) < (59 : Int32) ↔ X.2 (xbg X p) < 59 from nI_ltI (b := 59) (by omega) (by decide)), ite_i (show (61 : Int32) < nI (X.2 (xbg X p)) ↔ 61 < X.2 (xbg X p) from nI_ltI (a := 61) (by decide) (by omega))]
        have yes3 : isG (X.2 (xbg X p)) = true → ∃ h', (ck (hK (sI g y 4 (nI (xbg X p + 1))) y = 10) <| bd (sI (sI g y 4 (nI (xbg X p + 1))) y 6 (3 : Int32)) fun h2 => some ((), h2)) = some ((), h') ∧ Rx y h h' ∧ Ry y h h' ∧ RZ X y h' p := fun q => by
          rw [if_pos q] at s1
          exact out _ 3 R2 Y2 (by rw [s1]; rfl) (by rw [f2, va_eq, s2]) (by rw [f2, va_ne (by decide)]; exact e5g) (fun z => by omega) (fun z => by omega)
        have no4 : ¬ isG (X.2 (xbg X p)) = true → ∃ h', (ck (hK (sI g y 4 (nI (xbg X p + 1))) y = 10) <| bd (sI (sI g y 4 (nI (xbg X p + 1))) y 6 (4 : Int32)) fun h2 => some ((), h2)) = some ((), h') ∧ Rx y h h' ∧ Ry y h h' ∧ RZ X y h' p := fun q => by
          rw [if_neg q] at s1
          exact out _ 4 R2 Y2 (by rw [s1]; rfl) (by rw [f2, va_eq, s2]) (by rw [f2, va_ne (by decide)]; exact e5g) (fun z => by omega) (fun z => by omega)
        rw [isG_iff] at yes3 no4
        by_cases a1 : X.2 (xbg X p) < 40
        · rw [if_pos a1, if_neg (by omega), if_pos (by omega)]
          exact no4 (by omega)
        · rw [if_neg a1]
          by_cases a2 : X.2 (xbg X p) ≤ 43
          · rw [if_pos a2]
            exact yes3 (by omega)
          · rw [if_neg a2]
            by_cases a3 : X.2 (xbg X p) = 45
            · rw [if_pos a3]
              exact yes3 (by omega)
            · rw [if_neg a3]
              by_cases a4 : X.2 (xbg X p) < 59
              · rw [if_pos a4]
                exact no4 (by omega)
              · rw [if_neg a4]
                by_cases a5 : 61 < X.2 (xbg X p)
                · rw [if_pos a5]
                  exact no4 (by omega)
                · rw [if_neg a5]
                  exact yes3 (by omega)
      by_cases a : X.2 (xbg X p) < 48
      · rw [if_pos a]; exact go3
      · rw [if_neg a, if_pos (by omega)]; exact go3
  by_cases a : X.2 (xbg X p) < 97
  · rw [if_pos a]; exact go
  · have : 122 < X.2 (xbg X p) := Nat.lt_of_not_le (fun z => qL (isL_iff.mpr ⟨by omega, z⟩))
    rw [if_neg a, if_pos this]
    exact go
end MLX
