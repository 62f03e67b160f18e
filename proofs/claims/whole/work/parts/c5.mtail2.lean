/-! valley: the reference begins anew. -/
section MT5
variable {N y : Nat} {A : AV} {h : PH}
theorem m_vtail (hB : 2001 ≤ N) (W : WV A) (p : MA N h y A) : ∃ h', (cl (f_X11_fresh N y h) fun _ h11 => ck (hK h11 y = 10) <| rq (hR h11 y 39) fun a14 => ck (hK h11 a14 = 12) <| ck (0 < hN h11 a14) <| bd (sI h11 a14 0 (0 : Int32)) fun h17 => ck (hK h17 y = 10) <| rq (hR h17 y 45) fun a19 => ck (hK h17 a19 = 12) <| ck (0 < hN h17 a19) <| bd (sI h17 a19 0 (0 : Int32)) fun h22 => ck (hK h22 y = 10) <| bd (sI h22 y 54 (0 : Int32)) fun h24 => f_X11_valley_46 N N y (0 : Int32) h24) = some (0, h') ∧ Ex (fun z => z = y ∨ z = y + 27 ∨ z = y + 33 ∨ z = y + 37 ∨ z = y + 41) h h' ∧ RS (hI h' (y + 37)) 0 (sFresh A) ∧ hI h' (y + 27) 0 = 0 ∧ hI h' (y + 33) 0 = 0 ∧ hI h' y = va_up (hI h y) 54 0 ∧ ∀ k, k < 4 → hI h' (y + 41) k = 0 := by
  obtain ⟨g, a1, a2, a3⟩ := m_fresh (N := N) (by omega) W p.1 p.2.1
  have Mg := p.1.sm a2.1
  have M1 : MD (sI g (y + 27) 0 0) y := Mg.sm Sm.sI
  have M2 : MD (sI (sI g (y + 27) 0 0) (y + 33) 0 0) y := M1.sm Sm.sI
  have M3 : MD (sI (sI (sI g (y + 27) 0 0) (y + 33) 0 0) y 54 0) y := M2.sm Sm.sI
  obtain ⟨h', b1, b2, b3, -⟩ := m_46 (N := N) N 0 _ M3 (by decide) (by omega)
  have b1 : f_X11_valley_46 N N y 0 _ = _ := b1
  refine ⟨h', ?_, ((((a2.mono (Q := fun z => z = y ∨ z = y + 27 ∨ z = y + 33 ∨ z = y + 37 ∨ z = y + 41) (fun z hz => by omega)).trans (Ex.sI (Or.inr (Or.inl rfl)))).trans (Ex.sI (Or.inr (Or.inr (Or.inl rfl))))).trans (Ex.sI (Or.inl rfl))).trans (b2.mono (fun z hz => by omega)), ?_, ?_, ?_, ?_, fun k hk => b3 k (Nat.zero_le _) hk⟩
  · rw [a1, cl_s, ck_p Mg.1, mR_lines Mg, rq_s, ck_p (mK_lines Mg), mN_lines Mg, ck_p (by decide), bd_e, ck_p M1.1, mR_seens M1, rq_s, ck_p (mK_seens M1), mN_seens M1, ck_p (by decide), bd_e, ck_p M2.1, bd_e, b1]
  · rw [b2.2.2.2 _ (by omega), hI_sI_ne (by omega), hI_sI_ne (by omega), hI_sI_ne (by omega)]; exact a3
  · rw [b2.2.2.2 _ (by omega), hI_sI_ne (by omega), hI_sI_ne (by omega), hI_sI_eq, va_eq]
  · rw [b2.2.2.2 _ (by omega), hI_sI_ne (by omega), hI_sI_eq, va_eq]
  · rw [b2.2.2.2 _ (by omega), hI_sI_eq, hI_sI_ne (by omega), hI_sI_ne (by omega), a2.2.2.2 _ (by omega)]
end MT5
