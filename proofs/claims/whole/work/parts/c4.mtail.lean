/-! valley: the reference forgets its marks. -/
section M46
variable {N y : Nat}
theorem m_46 : ∀ n i (h : PH), MD h y → i ≤ 4 → 4 < n + i → ∃ h', f_X11_valley_46 N n y (nI i) h = some (0, h') ∧ Ex (fun z => z = y + 41) h h' ∧ (∀ k, i ≤ k → k < 4 → hI h' (y + 41) k = 0) ∧ ∀ k, k < i → hI h' (y + 41) k = hI h (y + 41) k
  | 0, i, h, M, h1, h2 => by omega
  | n + 1, i, h, M, h1, h2 => by
    show ∃ h', f_X11_valley_46_b N (f_X11_valley_46 N n) y (nI i) h = _ ∧ _
    unfold f_X11_valley_46_b
    rw [ite_i (show (4 : Int32) ≤ nI i ↔ 4 ≤ i from nI_leI (a := 4) (by decide) (by omega))]
    by_cases c : 4 ≤ i
    · rw [if_pos c]
      exact ⟨h, rfl, Ex.rf, fun k k1 k2 => by omega, fun _ _ => rfl⟩
    · have q := M.2 (53, 41, 13, 4) (by decide)
      have M1 : MD (sI h (y + 41) i ((0 : Int32) &&& 1)) y := M.sm Sm.sI
      obtain ⟨h', a1, a2, a3, a4⟩ := m_46 n (i + 1) (sI h (y + 41) i ((0 : Int32) &&& 1)) M1 (by omega) (by omega)
      rw [if_neg c, ck_p M.1, show hR h y 53 = some (y + 41) from q.1, rq_s, ck_p (show hK h (y + 41) = 13 from q.2.1), show hN h (y + 41) = 4 from q.2.2, ck_p (nI_ix (by omega) (by decide)), ix_nI (by omega), bd_e, nI_1, bd_e]
      refine ⟨h', a1, (Ex.sI (P := fun z => z = y + 41) rfl).trans a2, fun k k1 k2 => ?_, fun k hk => ?_⟩
      · by_cases e : k = i
        · rw [e, a4 i (by omega), hI_sI_eq, va_eq]
          decide
        · exact a3 k (by omega) k2
      · rw [a4 k (by omega), hI_sI_eq, va_ne (by omega)]
end M46
