/-! All the lines of a valley. -/
def rdL (X : TX) : Nat → ZS × DV → ZS × DV
  | 0, p => p
  | n + 1, p => if p.1.1 = 0 ∧ xty X p.1.2 ≠ 0 then rdL X n (lnF X p.2 p.1) else p
section RDA
variable {N x y w a : Nat} {X : TX}
theorem rdL_z {p : ZS × DV} (h : ¬ (p.1.1 = 0 ∧ xty X p.1.2 ≠ 0)) : ∀ n, rdL X n p = p
  | 0 => rfl
  | n + 1 => by unfold rdL; rw [if_neg h]
theorem z_over {s : ZS} {h : PH} (z : CZ X x h s) : ∃ r, f_X5_isOver N (x + 1) h = some (r, h) ∧ (r = 0 ↔ (s.1 = 0 ∧ xty X s.2 ≠ 0)) := by
  refine ⟨_, z_isOver z, ?_⟩
  rw [yb0]
  by_cases c : s.1 = 0
  · by_cases d : xty X s.2 = 0
    · simp [c, d]
    · simp [c, d]
  · simp [c]
theorem z_lines (hN : 2000 ≤ N) (hw : x + 43 ≤ w) : ∀ n m i h (p : ZS × DV), i + n = 1000 → n < m → w + 18 ≤ hz h → Rdr h a x w → CZ X x h p.1 → (p.1.1 = 0 → DC h w p.2 ∧ GD p.2 p.1) → ∃ h', f_X7_readLines_16 N m a (nI i) h = some ((), h') ∧ Kw x w h h' ∧ CZ X x h' (rdL X n p).1 ∧ ((rdL X n p).1.1 = 0 → DC h' w (rdL X n p).2 ∧ GD (rdL X n p).2 (rdL X n p).1)
  | n, 0, i, h, p, e1, e2, hl, rd, z, g => by omega
  | 0, m + 1, i, h, p, e1, e2, hl, rd, z, g => by
    refine ⟨h, ?_, Kw.rf, z, g⟩
    show f_X7_readLines_16_b N (f_X7_readLines_16 N m) a (nI i) h = _
    rw [zLn_at, if_pos (show (1000 : Int32) ≤ nI i from (nI_leI (a := 1000) (by decide) (by omega)).mpr (by omega))]
  | n + 1, m + 1, i, h, p, e1, e2, hl, rd, z, g => by
    obtain ⟨r, o1, o2⟩ := z_over (N := N) z
    show ∃ h', f_X7_readLines_16_b N (f_X7_readLines_16 N m) a (nI i) h = some ((), h') ∧ _
    rw [zLn_at, if_neg (show ¬ (1000 : Int32) ≤ nI i from fun z => by have := (nI_leI (a := 1000) (by decide) (by omega)).mp z; omega), ck_p rd.1, rd.2.1, rq_s, ck_p z.1.1.1, o1, cl_s, ite_i o2]
    by_cases c : p.1.1 = 0 ∧ xty X p.1.2 ≠ 0
    rotate_left
    · rw [if_neg c, rdL_z c]
      exact ⟨h, rfl, Kw.rf, z, g⟩
    obtain ⟨g1, g2⟩ := g c.1
    obtain ⟨h1, a1, a2, a3, a4⟩ := z_readLine hN hw hl z rd g1 g2.1
    have kl := k_ln (X := X) g2 c.1 z.2.1
    have rd1 := rd.shp a2.1
    obtain ⟨h', b1, b2, b3, b4⟩ := z_lines hN hw n m (i + 1) h1 (lnF X p.2 p.1) (by omega) (by omega) (Nat.le_trans hl a2.1.2.1) rd1 a3 (fun e => ⟨a4 e, (kl e).2⟩)
    have er : rdL X (n + 1) p = rdL X n (lnF X p.2 p.1) := by
      show (if p.1.1 = 0 ∧ xty X p.1.2 ≠ 0 then rdL X n (lnF X p.2 p.1) else p) = _
      rw [if_pos c]
    unfold f_X7_readLines_235
    rw [if_pos c, a1, cl_s, nI_1, bd_e, er]
    exact ⟨h', b1, a2.trans b2, b3, b4⟩
theorem m_lines (hN : 2000 ≤ N) : ∀ n m h (p : ZS × DV), X.1 ≤ n + p.1.2 → n < m → p.1.1 = 0 → RZ X y h p.1.2 → DM h y p.2 → GD p.2 p.1 → ∃ h', f_X11_readsAll_64 N m y h = some (yb (decide ((rdL X n p).1.1 = 0)), h') ∧ Pf y h h' ∧ MRs X y h' (rdL X n p).1 ∧ ((rdL X n p).1.1 = 0 → DM h' y (rdL X n p).2 ∧ GD (rdL X n p).2 (rdL X n p).1)
  | n, 0, h, p, e1, e2, hs, z, q, g => by omega
  | n, m + 1, h, p, e1, e2, hs, z, q, g => by
    have fin : xty X p.1.2 = 0 → ∃ h', f_X11_readsAll_64 N (m + 1) y h = some (yb (decide ((rdL X n p).1.1 = 0)), h') ∧ Pf y h h' ∧ MRs X y h' (rdL X n p).1 ∧ ((rdL X n p).1.1 = 0 → DM h' y (rdL X n p).2 ∧ GD (rdL X n p).2 (rdL X n p).1) := fun c => by
      rw [rdL_z (fun w => w.2 c), decide_eq_true hs]
      refine ⟨h, ?_, Pf.rf, ⟨fun _ => z, fun w => absurd hs w⟩, fun _ => ⟨q, g⟩⟩
      show f_X11_readsAll_64_b N (f_X11_readsAll_64 N m) y h = _
      unfold f_X11_readsAll_64_b
      rw [ck_p z.1.1.1, z.2.2.2.2.1, c, if_pos (show nI 0 = 0 from rfl)]
      rfl
    by_cases c : xty X p.1.2 = 0
    · exact fin c
    match n, e1, e2 with
    | 0, e1, e2 => exact absurd (xs_0 (X := X) (p := p.1.2) (by have := xbg_ge (X := X) (p := p.1.2); omega)).1 c
    | n + 1, e1, e2 =>
      obtain ⟨h1, a1, a2, a3, a4⟩ := m_line hN hs c z q g
      have kl := k_ln (X := X) g hs z.2.1
      have er : rdL X (n + 1) p = rdL X n (lnF X p.2 p.1) := by
        show (if p.1.1 = 0 ∧ xty X p.1.2 ≠ 0 then rdL X n (lnF X p.2 p.1) else p) = _
        rw [if_pos ⟨hs, c⟩]
      rw [er]
      generalize lnF X p.2 p.1 = t at *
      show ∃ h', f_X11_readsAll_64_b N (f_X11_readsAll_64 N m) y h = _ ∧ _
      rw [a1]
      unfold f_X11_readsAll_231
      by_cases d : t.1.1 = 0
      · obtain ⟨k1, k2⟩ := kl d
        obtain ⟨h', b1, b2, b3, b4⟩ := m_lines hN n m h1 t (by omega) (by omega) d (a3.1 d) (a4 d) k2
        rw [decide_eq_true d, if_neg (show ¬ yb true = 0 by decide)]
        exact ⟨h', b1, a2.trans b2, b3, b4⟩
      · rw [rdL_z (fun w => d w.1), decide_eq_false d, if_pos (show yb false = 0 from rfl)]
        exact ⟨h1, rfl, a2, a3, fun w => absurd w d⟩
/-- nothing is told yet -/
def D0 : DV := (fun _ => 0, fun _ _ => 0, fun _ => 0, fun _ => 0, fun _ => 0, fun _ => 0, fun _ => 0, fun _ => 0, fun _ => 0, fun _ => 0, fun _ => ([], []))
theorem GD_0 : GD D0 (0, 0) := ⟨⟨⟨fun k _ => Nat.zero_le _, Nat.zero_le _⟩, fun f hf => absurd hf (Nat.not_lt_zero f), fun f hf => absurd hf (Nat.not_lt_zero f), fun _ _ => Nat.zero_le _, fun _ _ _ _ _ => rfl, fun f hf => absurd hf (Nat.not_lt_zero f), fun f hf => absurd hf (Nat.not_lt_zero f), fun f hf => absurd hf (Nat.not_lt_zero f)⟩, fun _ _ => ⟨⟨fun _ => rfl, fun _ => rfl⟩, fun z => absurd rfl z⟩, fun _ => Nat.le_refl 0⟩
/-- the class's tape is opened -/
theorem z_open (hN : 2000 ≤ N) {h : PH} (tb : TB X x h) : ∃ h', f_X5_open N (x + 1) h = some ((), h') ∧ Kx x (fun z => z ≠ x + 1) h h' ∧ CZ X x h' (0, 0) := by
  have f1 : hI (sI (sI h (x + 1) 2 0) (x + 1) 8 0) (x + 1) = va_up (va_up (hI h (x + 1)) 2 0) 8 0 := by rw [hI_sI_eq, hI_sI_eq]
  have k1 : Kx x (fun z => z ≠ x + 1) h (sI (sI h (x + 1) 2 0) (x + 1) 8 0) := tkx.trans tkx
  have t1 : TB X x (sI (sI h (x + 1) 2 0) (x + 1) 8 0) := tb.kx k1 (by rw [f1, va_ne (by decide), va_ne (by decide)])
  have e2 : hI (sI (sI h (x + 1) 2 0) (x + 1) 8 0) (x + 1) 2 = nI 0 := by rw [f1, va_ne (by decide), va_eq]; rfl
  have e8 : hI (sI (sI h (x + 1) 2 0) (x + 1) 8 0) (x + 1) 8 = 0 := by rw [f1, va_eq]
  have l1 := tb.2.2.2.1.1
  obtain ⟨g, r1, r2, r3, r4⟩ := z_sk (N := N) (x := x) (X := X) N 0 (sI (sI h (x + 1) 2 0) (x + 1) 8 0) (by omega) (Nat.zero_le _) t1 e2
  have tg : TB X x g := t1.kx r2 (r3 1 (by decide))
  obtain ⟨h', s1, s2, s3, s4, s5⟩ := z_60 hN (Nat.zero_le _) tg r4
  refine ⟨h', ?_, (k1.trans r2).trans s2, tg.kx s2 s3, Nat.zero_le _, Nat.zero_le _, ?_, fun _ => s5⟩
  · unfold f_X5_open f_X5_step
    rw [ck_p tb.1.1, bd_e, ck_p (show hK (sI h (x + 1) 2 0) (x + 1) = 5 from tb.1.1), bd_e, ck_p t1.1.1, ck_p t1.1.1, e8, if_pos rfl, r1, s1, cl_s]
  · rw [s4, r3 8 (by decide), e8]
    rfl
end RDA
