/-! The duty of spell: the state an hour behind a way. -/
def S2 (A : AV) (S : AS) (u : Nat → Nat) : AS := sPass A (lyS A S u 4)
section SP7
variable {J : Nat} {A : AV} {S : AS}
theorem ly_H {u : Nat → Nat} : ∀ k, tH (lyS A S u k) = tH S
  | 0 => rfl
  | k + 1 => by
    unfold lyS
    by_cases c : u k = 5
    · rw [if_pos c]; exact ly_H k
    · rw [if_neg c]; exact ly_H k
theorem ly_L {u : Nat → Nat} : ∀ k j, tL (lyS A S u k) j = if j < k ∧ u j ≠ 5 then aB A (u j) else tL S j
  | 0, j => by rw [if_neg (fun z => Nat.not_lt_zero j z.1)]; rfl
  | k + 1, j => by
    have ih := ly_L (u := u) k j
    unfold lyS
    by_cases c : u k = 5
    · have e : (j < k + 1 ∧ u j ≠ 5) ↔ (j < k ∧ u j ≠ 5) := by
        constructor
        · intro z
          refine ⟨?_, z.2⟩
          have : j ≠ k := fun q => z.2 (by rw [q]; exact c)
          omega
        · exact fun z => ⟨by omega, z.2⟩
      rw [if_pos c, ih, ite_i e]
    · rw [if_neg c]
      show va_up (tL (lyS A S u k)) k (aB A (u k)) j = _
      by_cases q : j = k
      · subst q
        rw [va_eq, if_pos ⟨Nat.lt_succ_self j, c⟩]
      · have e : (j < k + 1 ∧ u j ≠ 5) ↔ (j < k ∧ u j ≠ 5) := by
          constructor
          · exact fun z => ⟨by omega, z.2⟩
          · exact fun z => ⟨by omega, z.2⟩
        rw [va_ne q, ih, ite_i e]
theorem ly_F {u : Nat → Nat} : ∀ k j, tF (lyS A S u k) j = if j < k ∧ u j ≠ 5 then u j + 1 else tF S j
  | 0, j => by rw [if_neg (fun z => Nat.not_lt_zero j z.1)]; rfl
  | k + 1, j => by
    have ih := ly_F (u := u) k j
    unfold lyS
    by_cases c : u k = 5
    · have e : (j < k + 1 ∧ u j ≠ 5) ↔ (j < k ∧ u j ≠ 5) := by
        constructor
        · intro z
          refine ⟨?_, z.2⟩
          have : j ≠ k := fun q => z.2 (by rw [q]; exact c)
          omega
        · exact fun z => ⟨by omega, z.2⟩
      rw [if_pos c, ih, ite_i e]
    · rw [if_neg c]
      show va_up (tF (lyS A S u k)) k (u k + 1) j = _
      by_cases q : j = k
      · subst q
        rw [va_eq, if_pos ⟨Nat.lt_succ_self j, c⟩]
      · have e : (j < k + 1 ∧ u j ≠ 5) ↔ (j < k ∧ u j ≠ 5) := by
          constructor
          · exact fun z => ⟨by omega, z.2⟩
          · exact fun z => ⟨by omega, z.2⟩
        rw [va_ne q, ih, ite_i e]
theorem ly_T {u : Nat → Nat} (hu : ∀ k, k < 4 → u k ≤ 5) : ∀ k, k ≤ 4 → ∀ j g, g < 5 → tT (lyS A S u k) (5 * j + g) = if j < k ∧ u j = g then tT S (5 * j + g) - 1 else tT S (5 * j + g)
  | 0, _, j, g, _ => by rw [if_neg (fun z => Nat.not_lt_zero j z.1)]; rfl
  | k + 1, hk, j, g, hg => by
    have ih := ly_T hu k (by omega) j g hg
    have l5 := hu k (by omega)
    unfold lyS
    by_cases c : u k = 5
    · have e : (j < k + 1 ∧ u j = g) ↔ (j < k ∧ u j = g) := by
        constructor
        · intro z
          refine ⟨?_, z.2⟩
          have : j ≠ k := fun q => by
            have := z.2
            rw [q, c] at this
            omega
          omega
        · exact fun z => ⟨by omega, z.2⟩
      rw [if_pos c, ih, ite_i e]
    · rw [if_neg c]
      show va_up (tT (lyS A S u k)) (5 * k + u k) (tT (lyS A S u k) (5 * k + u k) - 1) (5 * j + g) = _
      by_cases q : 5 * j + g = 5 * k + u k
      · have e1 : j = k := by omega
        have e2 : u k = g := by omega
        have i2 := ly_T hu k (by omega) k (u k) (by omega)
        rw [if_neg (fun z => Nat.lt_irrefl k z.1)] at i2
        rw [q, va_eq, i2, e1, if_pos ⟨Nat.lt_succ_self k, e2⟩]
      · have e : (j < k + 1 ∧ u j = g) ↔ (j < k ∧ u j = g) := by
          constructor
          · intro z
            refine ⟨?_, z.2⟩
            have : j ≠ k := fun r => q (by rw [r]; have := z.2; rw [r] at this; omega)
            omega
          · exact fun z => ⟨by omega, z.2⟩
        rw [va_ne q, ih, ite_i e]
theorem s2_H (u : Nat → Nat) : tH (S2 A S u) = tH S + 1 := by
  show tH (lyS A S u 4) + 1 = _
  rw [ly_H]
theorem s2_L {u : Nat → Nat} {j : Nat} (hj : j < 4) : tL (S2 A S u) j = (if u j = 5 then tL S j else aB A (u j)) - 1 := by
  show (if j < 4 then tL (lyS A S u 4) j - 1 else tL (lyS A S u 4) j) = _
  rw [if_pos hj, ly_L]
  by_cases c : u j = 5
  · rw [if_pos c, if_neg (fun z => z.2 c)]
  · rw [if_neg c, if_pos ⟨hj, c⟩]
theorem s2_F {u : Nat → Nat} {j : Nat} (hj : j < 4) : tF (S2 A S u) j = if (if u j = 5 then tL S j else aB A (u j)) ≤ 1 then 0 else if u j = 5 then tF S j else u j + 1 := by
  show (if j < 4 ∧ tL (lyS A S u 4) j ≤ 1 then 0 else tF (lyS A S u 4) j) = _
  rw [ly_L, ly_F]
  by_cases c : u j = 5
  · have n : ¬ (j < 4 ∧ u j ≠ 5) := fun z => z.2 c
    rw [if_neg n, if_neg n, if_pos c, if_pos c]
    by_cases d : tL S j ≤ 1
    · rw [if_pos ⟨hj, d⟩, if_pos d]
    · rw [if_neg (fun z => d z.2), if_neg d]
  · have y1 : j < 4 ∧ u j ≠ 5 := ⟨hj, c⟩
    rw [if_pos y1, if_pos y1, if_neg c, if_neg c]
    by_cases d : aB A (u j) ≤ 1
    · rw [if_pos ⟨hj, d⟩, if_pos d]
    · rw [if_neg (fun z => d z.2), if_neg d]
theorem s2_T {u : Nat → Nat} (hu : ∀ k, k < 4 → u k ≤ 5) {j g : Nat} (hj : j < 4) (hg : g < 5) : tT (S2 A S u) (5 * j + g) = if u j = g then tT S (5 * j + g) - 1 else tT S (5 * j + g) := by
  show tT (lyS A S u 4) (5 * j + g) = _
  rw [ly_T hu 4 (Nat.le_refl 4) j g hg]
  by_cases c : u j = g
  · rw [if_pos ⟨hj, c⟩, if_pos c]
  · rw [if_neg (fun z => c z.2), if_neg c]
theorem s2_W {u : Nat → Nat} (hW : WV A) (lu : LU A S u) (hT : WS A J S) : WS A (J + 1) (S2 A S u) := (lyS_W hW lu hT 4 (Nat.le_refl 4)).pass
/-- the fires that the class reckons with in the second hour -/
theorem s2_g {u : Nat → Nat} {j : Nat} (hj : j < 4) (w b : Nat) : gv A (tF (S2 A S u) j) (tL (S2 A S u) j) w b = if (if u j = 5 then tL S j else aB A (u j)) ≤ 1 then 0 else gv A (if u j = 5 then tF S j else u j + 1) ((if u j = 5 then tL S j else aB A (u j)) - 1) w b := by
  rw [s2_F hj, s2_L hj]
  by_cases d : (if u j = 5 then tL S j else aB A (u j)) ≤ 1
  · rw [if_pos d, if_pos d]
    unfold gv
    rw [if_pos (Or.inl rfl)]
  · rw [if_neg d, if_neg d]
end SP7
