/-! The duty of spell: the sums along a search. -/
/-- what the houses below j give by w, raw -/
def sD (A : AV) (S : AS) (f w : Nat) (u : Nat → Nat) (b j : Nat) : Nat := fb_sm (fun i => if (aHs A f).testBit i = true then gb A S u w b i else 0) j
section SP9
variable {J : Nat} {A : AV} {S : AS}
theorem sD_s {f w b j : Nat} {u : Nat → Nat} : sD A S f w u b (j + 1) = sD A S f w u b j + (if (aHs A f).testBit j = true then gb A S u w b j else 0) := rfl
theorem sD_no {f w b j : Nat} {u : Nat → Nat} (h : ¬ (aHs A f).testBit j = true) : sD A S f w u b (j + 1) = sD A S f w u b j := by rw [sD_s, if_neg h, Nat.add_zero]
theorem sD_yes {f w b j : Nat} {u : Nat → Nat} (h : (aHs A f).testBit j = true) : sD A S f w u b (j + 1) = sD A S f w u b j + gb A S u w b j := by rw [sD_s, if_pos h]
theorem sD_bd (hW : WV A) {f w b : Nat} {u : Nat → Nat} (j : Nat) : sD A S f w u b j ≤ j * 999 := fb_sm_bound (fun k _ => by
  split
  · exact gb_le hW _ _ _ _
  · omega)
theorem fb_pre {g : Nat → Nat} : ∀ d n, fb_sm g n ≤ fb_sm g (n + d)
  | 0, _ => Nat.le_refl _
  | d + 1, n => by
    have := fb_pre (g := g) d n
    show _ ≤ fb_sm g (n + d) + g (n + d)
    omega
/-- of all houses it is the flue's smoke -/
theorem sD_4 (hW : WV A) {f b : Nat} {u : Nat → Nat} : min (sD A S f (aWind A (tH S)) u b 4) 999 = sb A S u f b := by
  have h4 := hW.1.2.2.1
  have e : sD A S f (aWind A (tH S)) u b 4 = fb_sm (fun i => if aF A i = f then gb A S u (aWind A (tH S)) b i else 0) (aC A 2) := by
    unfold sD
    rw [show (4 : Nat) = aC A 2 + (4 - aC A 2) by omega, fb_more _ (fun i h1 h2 => ?_)]
    · refine fb_cong (fun i hi => ?_)
      by_cases c : aF A i = f
      · rw [if_pos (aHs_b.mpr ⟨hi, c⟩), if_pos c]
      · rw [if_neg (fun q => c (aHs_b.mp q).2), if_neg c]
    · rw [if_neg (fun q => by have := (aHs_b.mp q).1; omega)]
  unfold sb
  rw [e]
/-- a branch only adds -/
theorem sD_le {f w b j : Nat} {u v : Nat → Nat} (hj : j ≤ 4) (h : ∀ i, i < j → v i = u i) : sD A S f w u b j ≤ sD A S f w v b 4 := by
  have e : sD A S f w u b j = sD A S f w v b j := fb_cong (fun i hi => by
    unfold gb
    rw [h i hi])
  rw [e]
  have := fb_pre (g := fun i => if (aHs A f).testBit i = true then gb A S v w b i else 0) (4 - j) j
  rw [show j + (4 - j) = 4 by omega] at this
  exact this
theorem tm_le (hW : WV A) {v : Nat → Nat} {f d s : Nat} {w : Int32} (e0 : min d 999 ≤ sb A S v f 0) (e1 : min s 999 ≤ sb A S v f 1) (hw : w = -1 ∨ ∃ k, k < aC A 3 ∧ w = nI k) (t : tm A w d s = true) : sbs A S v f ≠ w := by
  have h6 := hW.1.2.2.2.1
  unfold tm at t
  rcases hw with hw | ⟨k, hk, rfl⟩
  · rw [if_pos hw] at t
    exact absurd t (by decide)
  · rw [if_neg (ni1 (by omega)), ix_nI (by omega)] at t
    intro z
    unfold sbs at z
    obtain ⟨⟨-, q1⟩, -, q2⟩ := aSign_fit (by omega) h6 z (by
      have := aSg_le (A := A) (d := sb A S v f 0) (s := sb A S v f 1) (aC A 3) 0 (by omega)
      omega)
    rw [Bool.not_eq_true', Bool.and_eq_false_iff, decide_eq_false_iff_not, decide_eq_false_iff_not] at t
    omega
/-- behind too much smoke below house j no way tells that sign -/
theorem tm_ws (hW : WV A) {X f n j d s : Nat} {u : Nat → Nat} {w : Int32} (hj : j ≤ 4) (ed : d = sD A S f (aWind A (tH S)) u 0 j) (es : s = sD A S f (aWind A (tH S)) u 1 j) (hw : w = -1 ∨ ∃ k, k < aC A 3 ∧ w = nI k) (t : tm A w d s = true) : ∀ v, v ∈ ws X (al A S) n j u → sbs A S v f ≠ w := fun v hv => by
  have a := sD_le (A := A) (S := S) (f := f) (w := aWind A (tH S)) (b := 0) hj (fun i hi => ws_pre n j u v hv i hi)
  have b := sD_le (A := A) (S := S) (f := f) (w := aWind A (tH S)) (b := 1) hj (fun i hi => ws_pre n j u v hv i hi)
  refine tm_le hW (d := d) (s := s) ?_ ?_ hw t
  · rw [← sD_4 hW]; omega
  · rw [← sD_4 hW]; omega
end SP9
