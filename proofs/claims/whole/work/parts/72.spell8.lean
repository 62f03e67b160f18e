/-! The duty of spell: what the class's search keeps while it goes. -/
def SV (A : AV) (S : AS) (x v f : Nat) (w1 w2 : Int32) (h : PH) (st : Nat × (Nat → Nat)) : Prop := SP h (x + 31) ∧ (hR h (x + 31) 3 = some v ∧ hR h (x + 31) 4 = some (x + 3 + 1)) ∧ VA h v A ∧ ST h (x + 3 + 1) ∧ CS h (x + 3 + 1) S ∧ (hI h (x + 31) 5 = nI (rkX (aHs A f) 4) ∧ hI h (x + 31) 6 = w1 ∧ hI h (x + 31) 7 = w2 ∧ hI h (x + 31) 8 = nI (aWind A (tH S)) ∧ hI h (x + 31) 9 = nI (aWind A (tH S + 1)) ∧ hI h (x + 31) 10 = nI st.1) ∧ (∀ j, j < 4 → (aHs A f).testBit j = true → hI h (x + 31 + 1) (rkX (aHs A f) j) = nI j) ∧ (st.1 ≠ 9 → ∀ j, j < 4 → (aHs A f).testBit j = true → hI h (x + 31 + 3) (rkX (aHs A f) j) = cm (st.2 j))
/-- the first hour's choices of the houses below k are written -/
def FRs (A : AV) (x f : Nat) (h : PH) (u : Nat → Nat) (k : Nat) : Prop := ∀ j, j < k → (aHs A f).testBit j = true → hI h (x + 31 + 2) (rkX (aHs A f) j) = cm (u j)
section SP8
variable {N x J : Nat} {A : AV} {S : AS}
theorem SP.sm {h h' : PH} {k : Nat} (s : Sm h h') (p : SP h k) : SP h' k := by
  unfold SP IA at p ⊢
  rw [s.1, s.2.1, s.2.2.1]
  exact p
theorem SV.gx {h h' : PH} {v f : Nat} {w1 w2 : Int32} {st : Nat × (Nat → Nat)} (hv : x + 37 ≤ v) (g : Gx v h h') (hV : VA h' v A) (p : SV A S x v f w1 w2 h st) : SV A S x v f w1 w2 h' st := by
  obtain ⟨p1, ⟨p2, p3⟩, p4, p5, p6, p7, p8, p9⟩ := p
  have d : Dj (x + 3 + 1) v := by unfold Dj; omega
  refine ⟨p1.sm g.1, ⟨by rw [g.1.2.2.1]; exact p2, by rw [g.1.2.2.1]; exact p3⟩, hV, p5.sm g.1, p6.gx d g, ?_, ?_, ?_⟩
  · rw [g.2.2.2 (x + 31) (by omega) (by omega) (by omega)]; exact p7
  · rw [g.2.2.2 (x + 31 + 1) (by omega) (by omega) (by omega)]; exact p8
  · rw [g.2.2.2 (x + 31 + 3) (by omega) (by omega) (by omega)]; exact p9
theorem FRs.gx {h h' : PH} {v f k : Nat} {u : Nat → Nat} (hv : x + 37 ≤ v) (g : Gx v h h') (p : FRs A x f h u k) : FRs A x f h' u k := fun j hj t => by
  rw [g.2.2.2 (x + 31 + 2) (by omega) (by omega) (by omega)]
  exact p j hj t
/-- a better choice is kept -/
theorem c_keep {h : PH} {v f c : Nat} {w1 w2 : Int32} {st : Nat × (Nat → Nat)} {u : Nat → Nat} (hv : x + 37 ≤ v) (p : SV A S x v f w1 w2 h st) (fr : FRs A x f h u 4) : ∃ h', f_X3_keep N (x + 31) (nI c) h = some ((), h') ∧ Ex (fun z => z = x + 31 ∨ z = x + 31 + 3) h h' ∧ SV A S x v f w1 w2 h' (c, u) ∧ FRs A x f h' u 4 := by
  obtain ⟨p1, ⟨p2, p3⟩, p4, p5, p6, ⟨q5, q6, q7, q8, q9, q10⟩, p8, p9⟩ := p
  have r4 := rkX_le (aHs A f) 4
  have E1 : Ex (fun z => z = x + 31 ∨ z = x + 31 + 3) h (sI h (x + 31) 10 (nI c)) := Ex.sI (Or.inl rfl)
  have k1 : SP (sI h (x + 31) 10 (nI c)) (x + 31) := p1.sm Sm.sI
  have f1 : hI (sI h (x + 31) 10 (nI c)) (x + 31) = va_up (hI h (x + 31)) 10 (nI c) := hI_sI_eq
  have un1 : f_X3_keep N (x + 31) (nI c) h = some ((), sRow (sI h (x + 31) 10 (nI c)) (x + 31 + 3) (va_cpy (hI (sI h (x + 31) 10 (nI c)) (x + 31 + 2)) (hI (sI h (x + 31) 10 (nI c)) (x + 31 + 3)) (ix (0 : Int32)) (ix (0 : Int32)) (ix (4 : Int32)))) := by
    unfold f_X3_keep
    rw [ck_p p1.1, bd_e, ck_p k1.1, k1.2.1.2.1, rq_s, k1.2.1.2.2, rq_s, ck_p k1.2.2.2.1.1, ck_p k1.2.2.2.2.1, k1.2.2.2.1.2, k1.2.2.2.2.2, ck_p (by decide), ck_p (by decide), bd_e]
  have E2 : Ex (fun z => z = x + 31 ∨ z = x + 31 + 3) (sI h (x + 31) 10 (nI c)) (sRow (sI h (x + 31) 10 (nI c)) (x + 31 + 3) (va_cpy (hI (sI h (x + 31) 10 (nI c)) (x + 31 + 2)) (hI (sI h (x + 31) 10 (nI c)) (x + 31 + 3)) (ix (0 : Int32)) (ix (0 : Int32)) (ix (4 : Int32)))) := Ex.sRow (Or.inr rfl)
  have f2 : hI (sRow (sI h (x + 31) 10 (nI c)) (x + 31 + 3) (va_cpy (hI (sI h (x + 31) 10 (nI c)) (x + 31 + 2)) (hI (sI h (x + 31) 10 (nI c)) (x + 31 + 3)) (ix (0 : Int32)) (ix (0 : Int32)) (ix (4 : Int32)))) (x + 31 + 3) = va_cpy (hI (sI h (x + 31) 10 (nI c)) (x + 31 + 2)) (hI (sI h (x + 31) 10 (nI c)) (x + 31 + 3)) (ix (0 : Int32)) (ix (0 : Int32)) (ix (4 : Int32)) := hI_row
  have f2' : hI (sRow (sI h (x + 31) 10 (nI c)) (x + 31 + 3) (va_cpy (hI (sI h (x + 31) 10 (nI c)) (x + 31 + 2)) (hI (sI h (x + 31) 10 (nI c)) (x + 31 + 3)) (ix (0 : Int32)) (ix (0 : Int32)) (ix (4 : Int32)))) (x + 31) = va_up (hI h (x + 31)) 10 (nI c) := (hI_row_ne (by omega)).trans f1
  have cp : ∀ k, k < 4 → va_cpy (hI (sI h (x + 31) 10 (nI c)) (x + 31 + 2)) (hI (sI h (x + 31) 10 (nI c)) (x + 31 + 3)) (ix (0 : Int32)) (ix (0 : Int32)) (ix (4 : Int32)) k = hI h (x + 31 + 2) k := fun k hk => by
    rw [hI_sI_ne (show x + 31 + 2 ≠ x + 31 by omega)]
    exact cpy_at (n := 4) hk (by decide)
  rw [un1]
  generalize sRow (sI h (x + 31) 10 (nI c)) (x + 31 + 3) (va_cpy (hI (sI h (x + 31) 10 (nI c)) (x + 31 + 2)) (hI (sI h (x + 31) 10 (nI c)) (x + 31 + 3)) (ix (0 : Int32)) (ix (0 : Int32)) (ix (4 : Int32))) = g at E2 f2 f2'
  have EE := E1.trans E2
  have kx : Kx x (fun z => z ≠ x + 31 ∧ z ≠ x + 31 + 3) h g := EE.kx (fun z hz => by omega)
  refine ⟨g, rfl, EE, ⟨p1.sm EE.1, ⟨by rw [EE.1.2.2.1]; exact p2, by rw [EE.1.2.2.1]; exact p3⟩, p4.ex EE (fun z z1 z2 => by omega), p5.sm EE.1, p6.kx kx (fun z z1 z2 => by omega), ?_, ?_, ?_⟩, ?_⟩
  · rw [f2', va_ne (by decide), va_ne (by decide), va_ne (by decide), va_ne (by decide), va_ne (by decide), va_eq]
    exact ⟨q5, q6, q7, q8, q9, rfl⟩
  · rw [EE.2.2.2 _ (by omega)]; exact p8
  · intro _ j hj t
    have l := rkX_lt hj t
    rw [f2, cp _ (by omega)]
    exact fr j hj t
  · intro j hj t
    rw [EE.2.2.2 _ (by omega)]
    exact fr j hj t
end SP8
