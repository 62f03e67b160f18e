/-! A day played: begin, fresh, the lines; the duty of judged. -/
section FL
variable {N : Nat}
theorem c_fl {a n0 : Nat} {v : Int32} (hn : n0 ≤ 2000) : ∀ (n i : Nat) (h : PH), n0 < n + i → i ≤ n0 → IA h a n0 → (∀ k, k < i → hI h a k = v) → ∃ h', f_J7_fill_53178_5 N n a v (nI i) (nI n0) h = some ((), h') ∧ Ex (fun z => z = a) h h' ∧ ∀ k, k < n0 → hI h' a k = v
  | 0, i, h, h1, h2, _, _ => by omega
  | n + 1, i, h, h1, h2, ia, hv => by
    show ∃ h', f_J7_fill_53178_5_b N (f_J7_fill_53178_5 N n) a v _ _ h = _ ∧ _
    unfold f_J7_fill_53178_5_b
    rw [ite_i (nI_leI (by omega) (by omega))]
    by_cases c : n0 ≤ i
    · rw [if_pos c]
      exact ⟨h, rfl, Ex.rf, fun k hk => hv k (by omega)⟩
    · rw [if_neg c, ck_p ia.1, ia.2, ck_p (nI_ix (by omega) (by omega)), ix_nI (by omega), bd_e, bd_e, nI_1]
      obtain ⟨h', r1, r2, r3⟩ := c_fl hn n (i + 1) (sI h a i v) (by omega) (by omega) (ia.sm Sm.sI) (fun k hk => by
        rw [hI_sI_eq]
        by_cases e : k = i
        · rw [e, va_eq]
        · rw [va_ne e]; exact hv k (by omega))
      exact ⟨h', r1, (Ex.sI (P := fun z => z = a) rfl).trans r2, r3⟩
theorem c_fill (hN : 2001 ≤ N) {h : PH} {a n0 : Nat} (hn : n0 ≤ 2000) (ia : IA h a n0) (v : Int32) : ∃ h', f_J7_fill_53178 N a v h = some ((), h') ∧ Ex (fun z => z = a) h h' ∧ ∀ k, k < n0 → hI h' a k = v := by
  unfold f_J7_fill_53178
  rw [ck_p ia.1, bd_e, ia.2]
  exact c_fl hn N 0 h (by omega) (by omega) ia (fun k hk => by omega)
end FL
/-- a valley at its beginning -/
def sFresh (A : AV) : AS := (0, fun _ => 0, fun _ => 0, aT A, fun _ => 0)
theorem WS.fresh {A : AV} (hW : WV A) : WS A 0 (sFresh A) := ⟨Nat.le_refl 0, fun i _ => ⟨Nat.zero_le _, Nat.zero_le _, ⟨fun _ => rfl, fun _ => rfl⟩, fun _ => rfl⟩, hW.2.2.2.1, hW.2.2.2.2.1, fun _ _ => Nat.zero_le _⟩
section BG2
variable {N : Nat} {h : PH} {A : AV} {s v : Nat}
theorem c_begin (hN : 2001 ≤ N) (d : Dj s v) (hS : ST h s) (hV : VL h v) (hC : CV h v A) : ∃ h', f_X4_begin N s v h = some ((), h') ∧ Ex (inS s) h h' ∧ CS h' s (sFresh A) := by
  unfold Dj at d
  unfold f_X4_begin
  rw [ck_p hS.1, bd_e]
  have x0 : Ex (inS s) h (sI h s 0 0) := Ex.sI (by unfold inS; omega)
  have q0 : hI (sI h s 0 0) s 0 = nI 0 := by rw [hI_sI_eq, va_eq]; rfl
  have g0 : ∀ z, z ≠ s → hI (sI h s 0 0) z = hI h z := fun z hz => hI_sI_ne hz
  generalize sI h s 0 0 = h0 at x0 q0 g0 ⊢
  have S0 := hS.sm x0.1
  have V0 := hV.sm x0.1
  rw [ck_p V0.1, vR_stock V0, rq_s, ck_p S0.1, sR_stock S0, rq_s, rq_s, ck_p (sK_stock S0), ck_p (vK_stock V0), ck_p (sK_stock S0), sN_stock S0, vN_stock V0, ck_p (by decide +kernel), ck_p (by decide +kernel), ck_p (by decide +kernel), bd_e]
  have y1 : Ex (inS s) h0 (sRow h0 (s + 1) (va_cpy (hI h0 (v + 7)) (hI h0 (s + 1)) (ix (0 : Int32)) (ix (0 : Int32)) (ix (nI 20)))) := Ex.sRow (by unfold inS; omega)
  have f1 : hI (sRow h0 (s + 1) (va_cpy (hI h0 (v + 7)) (hI h0 (s + 1)) (ix (0 : Int32)) (ix (0 : Int32)) (ix (nI 20)))) (s + 1) = va_cpy (hI h0 (v + 7)) (hI h0 (s + 1)) (ix (0 : Int32)) (ix (0 : Int32)) (ix (nI 20)) := hI_row
  have g1 : ∀ z, z ≠ s + 1 → hI (sRow h0 (s + 1) (va_cpy (hI h0 (v + 7)) (hI h0 (s + 1)) (ix (0 : Int32)) (ix (0 : Int32)) (ix (nI 20)))) z = hI h0 z := fun z hz => hI_row_ne hz
  generalize sRow h0 (s + 1) (va_cpy (hI h0 (v + 7)) (hI h0 (s + 1)) (ix (0 : Int32)) (ix (0 : Int32)) (ix (nI 20))) = h1 at y1 f1 g1 ⊢
  have S1 := S0.sm y1.1
  obtain ⟨h2, r2, x2, v2⟩ := c_fill (N := N) hN (h := h1) (a := s + 2) (n0 := 4) (by decide) ⟨sK_fuel S1, sN_fuel S1⟩ (-1)
  have S2 := S1.sm x2.1
  obtain ⟨h3, r3, x3, v3⟩ := c_fill (N := N) hN (h := h2) (a := s + 3) (n0 := 4) (by decide) ⟨sK_left S2, sN_left S2⟩ 0
  have S3 := S2.sm x3.1
  obtain ⟨h4, r4, x4, v4⟩ := c_fill (N := N) hN (h := h3) (a := s + 4) (n0 := 3) (by decide) ⟨sK_soot S3, sN_soot S3⟩ 0
  rw [ck_p S1.1, sR_fuel S1, rq_s, r2, cl_s, ck_p S2.1, sR_left S2, rq_s, r3, cl_s, ck_p S3.1, sR_soot S3, rq_s, r4, cl_s]
  refine ⟨h4, rfl, (((x0.trans y1).trans (x2.mono (fun z hz => by unfold inS; omega))).trans (x3.mono (fun z hz => by unfold inS; omega))).trans (x4.mono (fun z hz => by unfold inS; omega)), ?_, fun k hk => ?_, fun k hk => ?_, fun k hk => ?_, fun k hk => ?_⟩
  · rw [x4.2.2.2 s (by omega), x3.2.2.2 s (by omega), x2.2.2.2 s (by omega), g1 s (by omega)]; show hI h0 s 0 = nI 0
    exact q0
  · rw [x4.2.2.2 _ (by omega), x3.2.2.2 _ (by omega), x2.2.2.2 _ (by omega), f1, cpy_at hk (by decide), g0 _ (by omega)]; exact hC.2.2.2.2.1 k hk
  · rw [x4.2.2.2 _ (by omega), x3.2.2.2 _ (by omega), v2 k hk]
    show (-1 : Int32) = nI 0 + (-1)
    decide
  · rw [x4.2.2.2 _ (by omega), v3 k hk]
    show (0 : Int32) = nI 0
    rfl
  · rw [v4 k hk]
    show (0 : Int32) = nI 0
    rfl
end BG2
/-- the reference's fresh start, stocks laid up to the m-th -/
def FR (A : AV) (m : Nat) : AS := (0, fun _ => 0, fun _ => 0, fun k => if k < m then aT A k else 0, fun _ => 0)
section FR2
variable {N : Nat} {A : AV} {y : Nat}
theorem MV.ex {P : Nat → Prop} {h h' : PH} (g : Ex P h h') (hP : ∀ z, y + 2 ≤ z → z ≤ y + 11 → ¬ P z) (p : MV h y A) : MV h' y A := by
  have e : ∀ k, 2 ≤ k → k ≤ 11 → hI h' (y + k) = hI h (y + k) := fun k h1 h2 => g.2.2.2 _ (hP _ (by omega) (by omega))
  unfold MV at p ⊢
  rw [e 2 (by decide) (by decide), e 4 (by decide) (by decide), e 5 (by decide) (by decide), e 6 (by decide) (by decide), e 7 (by decide) (by decide), e 8 (by decide) (by decide), e 9 (by decide) (by decide), e 10 (by decide) (by decide), e 11 (by decide) (by decide)]
  exact p
theorem m_fr57 (hW : WV A) {K : Nat → Int32 → PH → Option (Unit × PH)} {i : Nat} (hi : i < aC A 2) (hK : ∀ h, MD h y → MV h y A → RS (hI h (y + 37)) 0 (FR A (5 * (i + 1))) → ∃ h', K y (nI (i + 1)) h = some ((), h') ∧ Ex (fun z => z = y + 37) h h' ∧ RS (hI h' (y + 37)) 0 (FR A (5 * aC A 2))) : ∀ (n j : Nat) (h : PH), 5 < n + j → j ≤ 5 → MD h y → MV h y A → RS (hI h (y + 37)) 0 (FR A (5 * i + j)) → ∃ h', f_X11_fresh_57 N K n y (nI i) (nI j) h = some ((), h') ∧ Ex (fun z => z = y + 37) h h' ∧ RS (hI h' (y + 37)) 0 (FR A (5 * aC A 2))
  | 0, j, h, h1, h2, _, _, _ => by omega
  | n + 1, j, h, h1, h2, m, hC, rS => by
    have h4 := hW.1.2.2.1
    show ∃ h', f_X11_fresh_57_b N K (f_X11_fresh_57 N K n) y _ _ h = _ ∧ _
    unfold f_X11_fresh_57_b
    rw [ite_i (show (5 : Int32) ≤ nI j ↔ 5 ≤ j from nI_leI (a := 5) (by omega) (by omega))]
    by_cases c : 5 ≤ j
    · rw [if_pos c, bd_e, nI_1]
      exact hK h m hC (by rw [show 5 * (i + 1) = 5 * i + j by omega]; exact rS)
    · have e5 : (5 : Int32) * nI i + nI j = nI (5 * i + j) := by rw [show (5 : Int32) = nI 5 from rfl, pk_mul, nI_add]
      have ht := hW.2.2.2.1 (5 * i + j) (by omega)
      have val : (if (0 : Int32) < hI h (y + 8) (5 * i + j) then hI h (y + 8) (5 * i + j) else (0 : Int32)) = nI (aT A (5 * i + j)) := by
        rcases hC.2.2.2.1 i j hi (by omega) with e | ⟨e, e2⟩
        · rw [e]
          by_cases z : 0 < aT A (5 * i + j)
          · rw [if_pos (show (0 : Int32) < nI _ from nI_lt (a := 0) z (by omega))]
          · rw [if_neg (show ¬ (0 : Int32) < nI _ from nI_nlt (b := aT A (5 * i + j)) (a := 0) (by omega) (by omega)), show aT A (5 * i + j) = 0 by omega]; rfl
        · rw [e, e2]; decide
      rw [if_neg c, ck_p m.1, mR_s m, rq_s, mR_stockTold m, rq_s, ck_p (mK_stockTold m), mN_stockTold m, e5, ck_p (nI_ix (by omega) (by decide)), ck_p (mK_s m), mN_s m, m_ix, ck_p (nI_ix (by omega) (by decide)), ix_nI (by omega), ix_nI (by omega), val, bd_e, bd_e, nI_1]
      have x1 : Ex (fun z => z = y + 37) h (sI h (y + 37) (9 + (5 * i + j)) (nI (aT A (5 * i + j)))) := Ex.sI rfl
      obtain ⟨h', r1, r2, r3⟩ := m_fr57 hW hi hK n (j + 1) (sI h (y + 37) (9 + (5 * i + j)) (nI (aT A (5 * i + j)))) (by omega) (by omega) (m.sm Sm.sI) (hC.ex x1 (fun z z1 z2 z3 => by omega)) (by
        rw [hI_sI_eq]
        refine ⟨?_, fun k hk => ?_, fun k hk => ?_, fun k hk => ?_, fun k hk => ?_⟩
        · rw [va_ne (by omega)]; exact rS.1
        · rw [va_ne (by omega)]; exact rS.2.1 k hk
        · rw [va_ne (by omega)]; exact rS.2.2.1 k hk
        · show _ = nI (if k < 5 * i + (j + 1) then aT A k else 0)
          by_cases e : k = 5 * i + j
          · rw [e, show 0 + 9 + (5 * i + j) = 9 + (5 * i + j) by omega, va_eq, if_pos (by omega)]
          · rw [va_ne (by omega), rS.2.2.2.1 k hk]
            show nI (if k < 5 * i + j then aT A k else 0) = _
            rw [ite_i (show k < 5 * i + j ↔ k < 5 * i + (j + 1) by omega)]
        · rw [va_ne (by omega)]; exact rS.2.2.2.2 k hk)
      exact ⟨h', r1, x1.trans r2, r3⟩
theorem m_fr45 (hN : 100 ≤ N) (hW : WV A) : ∀ (n i : Nat) (h : PH), aC A 2 < n + i → i ≤ aC A 2 → MD h y → MV h y A → RS (hI h (y + 37)) 0 (FR A (5 * i)) → ∃ h', f_X11_fresh_45 N n y (nI i) h = some ((), h') ∧ Ex (fun z => z = y + 37) h h' ∧ RS (hI h' (y + 37)) 0 (FR A (5 * aC A 2))
  | 0, i, h, h1, h2, _, _, _ => by omega
  | n + 1, i, h, h1, h2, m, hC, rS => by
    have h4 := hW.1.2.2.1
    show ∃ h', f_X11_fresh_45_b N (f_X11_fresh_45 N n) y _ h = _ ∧ _
    unfold f_X11_fresh_45_b
    rw [ck_p m.1, mR_valley m, rq_s, ck_p (mK_valley m), mN_valley m, ck_p (by decide), hC.1 2 (by decide), ite_i (nI_leI (by omega) (by omega))]
    by_cases c : aC A 2 ≤ i
    · rw [if_pos c]
      exact ⟨h, rfl, Ex.rf, by rw [show aC A 2 = i by omega]; exact rS⟩
    · rw [if_neg c]
      exact m_fr57 hW (by omega) (fun h m hC rS => m_fr45 hN hW n (i + 1) h (by omega) (by omega) m hC rS) N 0 h (by omega) (by omega) m hC rS
theorem m_fr23 (hN : 100 ≤ N) (hW : WV A) : ∀ (n i : Nat) (h : PH), 4 < n + i → i ≤ 4 → MD h y → MV h y A → (∀ k, k < 32 → hI h (y + 37) k = if 1 ≤ k ∧ k < 1 + i then -1 else 0) → ∃ h', f_X11_fresh_23 N n y (nI i) h = some ((), h') ∧ Ex (fun z => z = y + 37) h h' ∧ RS (hI h' (y + 37)) 0 (FR A (5 * aC A 2))
  | 0, i, h, h1, h2, _, _, _ => by omega
  | n + 1, i, h, h1, h2, m, hC, rv => by
    show ∃ h', f_X11_fresh_23_b N (f_X11_fresh_23 N n) y _ h = _ ∧ _
    unfold f_X11_fresh_23_b
    rw [ite_i (show (4 : Int32) ≤ nI i ↔ 4 ≤ i from nI_leI (a := 4) (by omega) (by omega))]
    by_cases c : 4 ≤ i
    · have e : i = 4 := by omega
      subst e
      rw [if_pos c]
      have h4 := hW.1.2.2.1
      refine m_fr45 hN hW N 0 h (by omega) (by omega) m hC ⟨?_, fun k hk => ?_, fun k hk => ?_, fun k hk => ?_, fun k hk => ?_⟩
      · rw [rv 0 (by decide), if_neg (by omega)]
        show (0 : Int32) = nI 0
        rfl
      · rw [rv _ (by omega), if_pos (by omega)]
        show (-1 : Int32) = nI 0 + (-1)
        decide
      · rw [rv _ (by omega), if_neg (by omega)]
        show (0 : Int32) = nI 0
        rfl
      · rw [rv _ (by omega), if_neg (by omega)]
        show _ = nI (if k < 5 * 0 then aT A k else 0)
        rw [if_neg (by omega)]; rfl
      · rw [rv _ (by omega), if_neg (by omega)]
        show (0 : Int32) = nI 0
        rfl
    · have x1 : Ex (fun z => z = y + 37) h (sI h (y + 37) (1 + i) (-1)) := Ex.sI rfl
      rw [if_neg c, ck_p m.1, mR_s m, rq_s, ck_p (mK_s m), mN_s m, show (1 : Int32) + nI i = nI (1 + i) from nI_add 1 i, ck_p (nI_ix (by omega) (by decide)), ix_nI (by omega), bd_e, bd_e, nI_1]
      obtain ⟨h', r1, r2, r3⟩ := m_fr23 hN hW n (i + 1) (sI h (y + 37) (1 + i) (-1)) (by omega) (by omega) (m.sm Sm.sI) (hC.ex x1 (fun z z1 z2 z3 => by omega)) (fun k hk => by
        rw [hI_sI_eq]
        by_cases e : k = 1 + i
        · rw [e, va_eq, if_pos (by omega)]
        · rw [va_ne e, rv k hk, ite_i (show (1 ≤ k ∧ k < 1 + i) ↔ (1 ≤ k ∧ k < 1 + (i + 1)) by omega)])
      exact ⟨h', r1, x1.trans r2, r3⟩
theorem m_fr2 (hN : 100 ≤ N) (hW : WV A) : ∀ (n i : Nat) (h : PH), 32 < n + i → i ≤ 32 → MD h y → MV h y A → (∀ k, k < i → hI h (y + 37) k = 0) → ∃ h', f_X11_fresh_2 N n y (nI i) h = some ((), h') ∧ Ex (fun z => z = y + 37) h h' ∧ RS (hI h' (y + 37)) 0 (FR A (5 * aC A 2))
  | 0, i, h, h1, h2, _, _, _ => by omega
  | n + 1, i, h, h1, h2, m, hC, rv => by
    show ∃ h', f_X11_fresh_2_b N (f_X11_fresh_2 N n) y _ h = _ ∧ _
    unfold f_X11_fresh_2_b
    rw [ite_i (show (32 : Int32) ≤ nI i ↔ 32 ≤ i from nI_leI (a := 32) (by omega) (by omega))]
    by_cases c : 32 ≤ i
    · rw [if_pos c]
      exact m_fr23 hN hW N 0 h (by omega) (by omega) m hC (fun k hk => by rw [rv k (by omega), if_neg (by omega)])
    · have x1 : Ex (fun z => z = y + 37) h (sI h (y + 37) i 0) := Ex.sI rfl
      rw [if_neg c, ck_p m.1, mR_s m, rq_s, ck_p (mK_s m), mN_s m, ck_p (nI_ix (by omega) (by decide)), ix_nI (by omega), bd_e, bd_e, nI_1]
      obtain ⟨h', r1, r2, r3⟩ := m_fr2 hN hW n (i + 1) (sI h (y + 37) i 0) (by omega) (by omega) (m.sm Sm.sI) (hC.ex x1 (fun z z1 z2 z3 => by omega)) (fun k hk => by
        rw [hI_sI_eq]
        by_cases e : k = i
        · rw [e, va_eq]
        · rw [va_ne e]; exact rv k (by omega))
      exact ⟨h', r1, x1.trans r2, r3⟩
theorem m_fresh (hN : 100 ≤ N) (hW : WV A) {h : PH} (m : MD h y) (hC : MV h y A) : ∃ h', f_X11_fresh N y h = some ((), h') ∧ Ex (fun z => z = y + 37) h h' ∧ RS (hI h' (y + 37)) 0 (sFresh A) := by
  obtain ⟨h', r1, r2, r3⟩ := m_fr2 (N := N) hN hW N 0 h (by omega) (by omega) m hC (fun k hk => by omega)
  refine ⟨h', r1, r2, r3.same rfl (fun _ _ => rfl) (fun _ _ => rfl) (fun k hk => ?_) (fun _ _ => rfl)⟩
  show aT A k = if k < 5 * aC A 2 then aT A k else 0
  by_cases c : k < 5 * aC A 2
  · rw [if_pos c]
  · rw [if_neg c]
    have := hW.2.2.2.2.1 (k / 5) (k % 5) (by omega) (by omega) (Or.inl (by omega))
    rw [show 5 * (k / 5) + k % 5 = k by omega] at this
    exact this
end FR2
/-- a line of a day is played: the state, the first that could not be (0: none), the signs that were read -/
def plS (A : AV) (D : AD) (k : Nat) (S : AS) : AS := if D.2 (5 * k) = 2 then sPass A S else if D.2 (5 * k) = 0 then (if tL S (D.2 (5 * k + 1)) = 0 ∧ 0 < tT S (5 * D.2 (5 * k + 1) + D.2 (5 * k + 3)) then sLight A S (D.2 (5 * k + 1)) (D.2 (5 * k + 3)) else S) else if D.2 (5 * k + 4) ≤ tT S (5 * D.2 (5 * k + 1) + D.2 (5 * k + 3)) then sHand S (D.2 (5 * k + 1)) (D.2 (5 * k + 2)) (D.2 (5 * k + 3)) (D.2 (5 * k + 4)) else S
def plB (D : AD) (k : Nat) (S : AS) : Bool := decide (D.2 (5 * k) = 2) || (decide (D.2 (5 * k) = 0) && decide (tL S (D.2 (5 * k + 1)) = 0 ∧ 0 < tT S (5 * D.2 (5 * k + 1) + D.2 (5 * k + 3)))) || (decide (D.2 (5 * k) = 1) && decide (D.2 (5 * k + 4) ≤ tT S (5 * D.2 (5 * k + 1) + D.2 (5 * k + 3))))
def jS (A : AV) (D : AD) : Nat → AS
  | 0 => sFresh A
  | k + 1 => plS A D k (jS A D k)
def jB (A : AV) (D : AD) : Nat → Nat
  | 0 => 0
  | k + 1 => if plB D k (jS A D k) = true then jB A D k else if jB A D k = 0 then k + 1 else jB A D k
def jR (A : AV) (D : AD) : Nat → Nat
  | 0 => 0
  | k + 1 => if D.2 (5 * k) = 2 then jR A D k + sgs A (jS A D k) (aC A 1) else jR A D k
