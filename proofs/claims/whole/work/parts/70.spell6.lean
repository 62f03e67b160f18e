/-! The duty of spell, the class's side: too much, keep. -/
/-- more smoke than the sign has room for -/
def tm (A : AV) (w : Int32) (d s : Nat) : Bool := if w = -1 then false else !(decide (min d 999 ≤ aR A (4 * ix w + 1)) && decide (min s 999 ≤ aR A (4 * ix w + 3)))
/-- a house's choice, as the class writes it there -/
def cm (n : Nat) : Int32 := if n = 5 then -1 else nI n
section SP6
variable {N x J : Nat} {A : AV} {S : AS}
theorem ni1 {k : Nat} (hk : k < 1000) : ¬ nI k = -1 := fun z => by
  have := congrArg Int32.toInt z
  rw [nI_toInt (by omega), show (-1 : Int32).toInt = -1 by decide] at this
  omega
theorem c_tooMuch {h : PH} {v d s : Nat} {w : Int32} (sp : SP h (x + 31)) (r3 : hR h (x + 31) 3 = some v) (pv : VA h v A) (hd : d < 2 ^ 31) (hs : s < 2 ^ 31) (hw : w = -1 ∨ ∃ k, k < aC A 3 ∧ w = nI k) : f_X3_isTooMuch N (x + 31) w (nI d) (nI s) h = some (yb (tm A w d s), h) := by
  have hW := pv.2.2.1
  have h6 := hW.1.2.2.2.1
  unfold f_X3_isTooMuch tm
  rcases hw with hw | ⟨k, hk, rfl⟩
  · rw [if_pos hw, if_pos hw]
    rfl
  · have a2 : aR A (4 * k + 1) ≤ 999 := aR_le hW hk (j := 1) (by decide)
    have a4 : aR A (4 * k + 3) ≤ 999 := aR_le hW hk (j := 3) (by decide)
    have e : nI k * (4 : Int32) = nI (4 * k) := by rw [show (4 : Int32) = nI 4 from rfl, pk_mul, Nat.mul_comm]
    have e1 : nI (4 * k) + (1 : Int32) = nI (4 * k + 1) := nI_add _ 1
    have e3 : nI (4 * k) + (3 : Int32) = nI (4 * k + 3) := nI_add _ 3
    have n9 : (999 : Int32) = nI 999 := rfl
    rw [if_neg (ni1 (by omega)), if_neg (ni1 (by omega)), e, bd_e, ck_p sp.1, r3, rq_s, ck_p pv.1.1, vR_ranges pv.1, rq_s, ck_p (vK_ranges pv.1), vN_ranges pv.1, e1, ck_p (nI_ix (by omega) (by decide)), ix_nI (show 4 * k + 1 < 2 ^ 31 by omega), pv.2.1.2.2.2.2.2.1 _ (by omega), n9, min9 hd (by decide), ix_nI (show k < 2 ^ 31 by omega), ite_i (nI_ltI (by omega) (by omega))]
    by_cases c : aR A (4 * k + 1) < min d 999
    · rw [if_pos c]
      have : ¬ min d 999 ≤ aR A (4 * k + 1) := by omega
      simp [this, yb]
    · have c' : min d 999 ≤ aR A (4 * k + 1) := by omega
      rw [if_neg c, rq_s, ck_p pv.1.1, vR_ranges pv.1, rq_s, ck_p (vK_ranges pv.1), vN_ranges pv.1, e3, ck_p (nI_ix (by omega) (by decide)), ix_nI (show 4 * k + 3 < 2 ^ 31 by omega), pv.2.1.2.2.2.2.2.1 _ (by omega), min9 hs (by decide), ite_i (nI_leI (by omega) (by omega))]
      by_cases q : min s 999 ≤ aR A (4 * k + 3)
      · rw [if_pos q]
        simp [c', q, yb]
      · rw [if_neg q]
        simp [q, yb]
/-- behind too much smoke no way tells that sign -/
theorem tm_no (hW : WV A) (hT : WS A J S) {u v : Nat → Nat} {f d s : Nat} {w : Int32} (le : Le u v) (e0 : sb A S u f 0 = min d 999) (e1 : sb A S u f 1 = min s 999) (hw : w = -1 ∨ ∃ k, k < aC A 3 ∧ w = nI k) (t : tm A w d s = true) : sbs A S v f ≠ w := by
  have h6 := hW.1.2.2.2.1
  have m0 := sb_mono hW hT le f 0
  have m1 := sb_mono hW hT le f 1
  unfold tm at t
  rcases hw with hw | ⟨k, hk, rfl⟩
  · rw [if_pos hw] at t
    exact absurd t (by decide)
  · rw [if_neg (ni1 (by omega)), ix_nI (by omega)] at t
    intro z
    unfold sbs at z
    obtain ⟨⟨-, q1⟩, -, q2⟩ := aSign_fit (by omega) h6 z (by
      have := aSg_le (A := A) (d := sb A S v f 0) (s := sb A S v f 1) (aC A 3) 0 (by omega)
      omega)
    rw [Bool.not_eq_true', Bool.and_eq_false_iff, decide_eq_false_iff_not, decide_eq_false_iff_not] at t
    omega
end SP6
