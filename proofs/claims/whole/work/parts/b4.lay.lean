/-! The reference lays what it has read where the valley is. -/
section LAY
variable {N y : Nat} {h h' : PH}
theorem m_sh {a m n0 : Nat} (hm : 2 * m ≤ n0) (hn : n0 ≤ 2000) : ∀ n i h, IA h a n0 → i ≤ m → m < n + i → ∃ h', f_X11_shifts_2 N n a (nI m) (nI i) h = some ((), h') ∧ Ex (fun z => z = a) h h' ∧ (∀ k, i ≤ k → k < m → hI h' a k = hI h a (m + k)) ∧ ∀ k, (k < i ∨ m ≤ k) → hI h' a k = hI h a k
  | 0, i, h, ia, h1, h2 => by omega
  | n + 1, i, h, ia, h1, h2 => by
    show ∃ h', f_X11_shifts_2_b N (f_X11_shifts_2 N n) a (nI m) (nI i) h = _ ∧ _
    unfold f_X11_shifts_2_b
    rw [ite_i (nI_leI (by omega) (by omega))]
    by_cases c : m ≤ i
    · rw [if_pos c]
      exact ⟨h, rfl, Ex.rf, fun k k1 k2 => by omega, fun _ _ => rfl⟩
    · obtain ⟨h', a1, a2, a3, a4⟩ := m_sh hm hn n (i + 1) (sI h a i (hI h a (m + i))) ia (by omega) (by omega)
      rw [if_neg c, ck_p ia.1, ia.2, nI_add, ck_p (nI_ix (by omega) (by omega)), ck_p (nI_ix (by omega) (by omega)), ix_nI (show i < 2 ^ 31 by omega), ix_nI (show m + i < 2 ^ 31 by omega), bd_e, nI_1, bd_e]
      refine ⟨h', a1, (Ex.sI (P := fun z => z = a) rfl).trans a2, fun k k1 k2 => ?_, fun k hk => ?_⟩
      · by_cases e : k = i
        · rw [e, a4 i (Or.inl (by omega)), hI_sI_eq, va_eq]
        · rw [a3 k (by omega) k2, hI_sI_eq, va_ne (by omega)]
      · rw [a4 k (by omega), hI_sI_eq, va_ne (by omega)]
theorem m_shift (hN : 2000 ≤ N) {a m n0 : Nat} (hm : 2 * m ≤ n0) (hn : n0 ≤ 2000) (ia : IA h a n0) : ∃ h', f_X11_shifts N a (nI m) h = some ((), h') ∧ Ex (fun z => z = a) h h' ∧ ∀ k, k < m → hI h' a k = hI h a (m + k) := by
  obtain ⟨h', a1, a2, a3, a4⟩ := m_sh (N := N) hm hn N 0 h ia (Nat.zero_le _) (by omega)
  exact ⟨h', a1, a2, fun k hk => a3 k (Nat.zero_le _) hk⟩
/-- names -/
theorem m_l11 : ∀ n i h, MD h y → i ≤ 22 → 22 < n + i → ∃ h', f_X11_lays_11 N n y (nI i) h = f_X11_lays_11 N 1 y 22 h' ∧ (Sm h h' ∧ hz h' = hz h ∧ hI h' = hI h ∧ ∀ z, z ≠ y + 3 → hJ h' z = hJ h z) ∧ (∀ k, i ≤ k → k < 22 → hJ h' (y + 3) k = hJ h (y + 3) (22 + k)) ∧ ∀ k, (k < i ∨ 22 ≤ k) → hJ h' (y + 3) k = hJ h (y + 3) k
  | 0, i, h, M, h1, h2 => by omega
  | n + 1, i, h, M, h1, h2 => by
    by_cases c : i = 22
    · subst c
      exact ⟨h, rfl, ⟨Sm.rfl', rfl, rfl, fun _ _ => rfl⟩, fun k k1 k2 => by omega, fun _ _ => rfl⟩
    · have M1 : MD (sJ h (y + 3) i (hJ h (y + 3) (22 + i))) y := M.sm Sm.sJ
      obtain ⟨h', a1, ⟨a2, a3, a4, a5⟩, a6, a7⟩ := m_l11 n (i + 1) (sJ h (y + 3) i (hJ h (y + 3) (22 + i))) M1 (by omega) (by omega)
      have e1 : hJ (sJ h (y + 3) i (hJ h (y + 3) (22 + i))) (y + 3) = va_up (hJ h (y + 3)) i (hJ h (y + 3) (22 + i)) := by rw [hJ_sJ, up2_row]
      refine ⟨h', ?_, ⟨Sm.sJ.trans a2, a3, a4, fun z hz => (a5 z hz).trans (by rw [hJ_sJ]; exact up2_a _ _ _ hz)⟩, fun k k1 k2 => ?_, fun k hk => ?_⟩
      · show f_X11_lays_11_b N (f_X11_lays_11 N n) y (nI i) h = _
        unfold f_X11_lays_11_b
        rw [if_neg (show ¬ (22 : Int32) ≤ nI i from fun z => by have := (nI_leI (a := 22) (by decide) (by omega)).mp z; omega), ck_p M.1, mR_names M, rq_s, rq_s, ck_p (mK_names M), mN_names M, show (22 : Int32) + nI i = nI (22 + i) from nI_add 22 i, ck_p (nI_ix (by omega) (by decide)), ck_p (mK_names M), ck_p (nI_ix (by omega) (by decide)), ix_nI (show i < 2 ^ 31 by omega), ix_nI (show 22 + i < 2 ^ 31 by omega), bd_e, nI_1, bd_e]
        exact a1
      · by_cases e : k = i
        · rw [e, a7 i (Or.inl (by omega)), e1, va_eq]
        · rw [a6 k (by omega) k2, e1, va_ne (by omega)]
      · rw [a7 k (by omega), e1, va_ne (by omega)]
/-- the laws' lines -/
theorem m_l117 (hN : 2000 ≤ N) {f0 f1 t0 t1 : Nat} (M : MD h y) (k0 : 1000 ≤ f0) (k1 : 1000 ≤ f1) (k2 : 1000 ≤ t0) (k3 : 1000 ≤ t1) (e0 : hI h (y + 12) 2 = nI f0) (e1 : hI h (y + 12) 3 = nI f1) (e2 : hI h (y + 13) 2 = nI t0) (e3 : hI h (y + 13) 3 = nI t1) : ∃ h', f_X11_lays_117 N N y 0 h = some ((), h') ∧ Ex (fun z => z = y + 12 ∨ z = y + 13) h h' ∧ hI h' (y + 12) 0 = nI (f0 - 1000) ∧ hI h' (y + 12) 1 = nI (f1 - 1000) ∧ hI h' (y + 13) 0 = nI (t0 - 1000) ∧ hI h' (y + 13) 1 = nI (t1 - 1000) := by
  have hN3 : N = (N - 3) + 1 + 1 + 1 := by omega
  have M1 : MD (sI h (y + 12) 0 (nI (f0 - 1000))) y := M.sm Sm.sI
  obtain ⟨g, gd⟩ : ∃ g, g = sI (sI h (y + 12) 0 (nI (f0 - 1000))) (y + 13) 0 (nI (t0 - 1000)) := ⟨_, rfl⟩
  have M2 : MD g y := by rw [gd]; exact M1.sm Sm.sI
  have M3 : MD (sI g (y + 12) 1 (nI (f1 - 1000))) y := M2.sm Sm.sI
  have g12 : hI g (y + 12) = va_up (hI h (y + 12)) 0 (nI (f0 - 1000)) := by rw [gd, hI_sI_ne (by omega), hI_sI_eq]
  have g13 : hI g (y + 13) = va_up (hI h (y + 13)) 0 (nI (t0 - 1000)) := by rw [gd, hI_sI_eq, hI_sI_ne (by omega)]
  have x1 : Ex (fun z => z = y + 12 ∨ z = y + 13) h g := by rw [gd]; exact (Ex.sI (Or.inl rfl)).trans (Ex.sI (Or.inr rfl))
  have s0 : nI f0 - (1000 : Int32) = nI (f0 - 1000) := pk_sub (b := 1000) k0
  have s1 : nI f1 - (1000 : Int32) = nI (f1 - 1000) := pk_sub (b := 1000) k1
  have s2 : nI t0 - (1000 : Int32) = nI (t0 - 1000) := pk_sub (b := 1000) k2
  have s3 : nI t1 - (1000 : Int32) = nI (t1 - 1000) := pk_sub (b := 1000) k3
  refine ⟨sI (sI g (y + 12) 1 (nI (f1 - 1000))) (y + 13) 1 (nI (t1 - 1000)), ?_, (x1.trans (Ex.sI (Or.inl rfl))).trans (Ex.sI (Or.inr rfl)), ?_, ?_, ?_, ?_⟩
  · rw [show f_X11_lays_117 N N = f_X11_lays_117 N ((N - 3) + 1 + 1 + 1) from congrArg _ hN3]
    show f_X11_lays_117_b N (f_X11_lays_117 N ((N - 3) + 1 + 1)) y 0 h = _
    unfold f_X11_lays_117_b
    rw [if_neg (by decide), ck_p M.1, mR_lineFrom M, rq_s, rq_s, ck_p (mK_lineFrom M), mN_lineFrom M, ck_p (by decide), ck_p (mK_lineFrom M), ck_p (by decide), show ix ((2 : Int32) + 0) = 2 by decide, show ix (0 : Int32) = 0 by decide, e0, s0, bd_e, ck_p M1.1, mR_lineTo M1, rq_s, rq_s, ck_p (mK_lineTo M1), mN_lineTo M1, ck_p (by decide), ck_p (mK_lineTo M1), ck_p (by decide), hI_sI_ne (show y + 13 ≠ y + 12 by omega), e2, s2, bd_e, show (0 : Int32) + 1 = 1 by decide, bd_e, ← gd]
    show f_X11_lays_117_b N (f_X11_lays_117 N ((N - 3) + 1)) y 1 g = _
    unfold f_X11_lays_117_b
    rw [if_neg (by decide), ck_p M2.1, mR_lineFrom M2, rq_s, rq_s, ck_p (mK_lineFrom M2), mN_lineFrom M2, ck_p (by decide), ck_p (mK_lineFrom M2), ck_p (by decide), show ix ((2 : Int32) + 1) = 3 by decide, show ix (1 : Int32) = 1 by decide, g12, va_ne (by decide), e1, s1, bd_e, ck_p M3.1, mR_lineTo M3, rq_s, rq_s, ck_p (mK_lineTo M3), mN_lineTo M3, ck_p (by decide), ck_p (mK_lineTo M3), ck_p (by decide), hI_sI_ne (show y + 13 ≠ y + 12 by omega), g13, va_ne (by decide), e3, s3, bd_e, show (1 : Int32) + 1 = 2 by decide, bd_e]
    show f_X11_lays_117_b N (f_X11_lays_117 N (N - 3)) y 2 _ = _
    unfold f_X11_lays_117_b
    rw [if_pos (by decide)]
  · rw [hI_sI_ne (by omega), hI_sI_eq, va_ne (by decide), g12, va_eq]
  · rw [hI_sI_ne (by omega), hI_sI_eq, va_eq]
  · rw [hI_sI_eq, va_ne (by decide), hI_sI_ne (by omega), g13, va_eq]
  · rw [hI_sI_eq, va_eq]
end LAY
