/-! valley: the class. -/
section CVA
variable {N x v w : Nat} {X : TX} {h : PH}
theorem z_new (l : x + 43 < hz h) (hl : x + 1 < hz h) : ∃ hr, f_X7_init N (hz h) (x + 1) w (nwh h 7 0) = some ((), hr) ∧ Rdr hr (hz h) x w ∧ Kx x (fun z => z < hz h) h hr := by
  have k0 : hK (nwh h 7 0) (hz h) = 7 := va_eq
  refine ⟨sR (sR (nwh h 7 0) (hz h) 0 (some (x + 1))) (hz h) 1 (some w), ?_, ⟨k0, ?_, ?_, Nat.lt_succ_self _, l⟩, ⟨rfl, Nat.le_succ _, fun z hz' => ⟨va_ne (Nat.ne_of_lt hz'), va_ne (Nat.ne_of_lt hz')⟩, fun z k hz' _ _ _ => ?_⟩, fun z hz' => ⟨va_ne (Nat.ne_of_lt hz'), va_ne (Nat.ne_of_lt hz')⟩⟩
  · unfold f_X7_init
    rw [ck_p k0, bd_e, ck_p (show hK (sR (nwh h 7 0) (hz h) 0 (some (x + 1))) (hz h) = 7 from k0), bd_e]
  · show up2 (up2 (hR (nwh h 7 0)) (hz h) 0 (some (x + 1))) (hz h) 1 (some w) (hz h) 0 = _
    rw [up2_k _ _ _ (by decide), up2_self]
  · show up2 (up2 (hR (nwh h 7 0)) (hz h) 0 (some (x + 1))) (hz h) 1 (some w) (hz h) 1 = _
    rw [up2_self]
  · show up2 (up2 (hR (nwh h 7 0)) (hz h) 0 (some (x + 1))) (hz h) 1 (some w) z k = _
    rw [up2_a _ _ _ (Nat.ne_of_lt hz'), up2_a _ _ _ (Nat.ne_of_lt hz')]
    exact congrFun (show va_up (hR h) (hz h) (fun _ => none) z = hR h z from va_ne (Nat.ne_of_lt hz')) k
end CVA
