/-! The duty of spell: the sums along a search. -/
/-- a house's choice, as the class writes it there -/
def cm (n : Nat) : Int32 := if n = 5 then -1 else nI n
/-- what the houses below j give by w, raw -/
def sD (A : AV) (S : AS) (f w : Nat) (u : Nat → Nat) (b j : Nat) : Nat := fb_sm (fun i => if (aHs A f).testBit i = true then gb A S u w b i else 0) j
section SP9
variable {J : Nat} {A : AV} {S : AS}
theorem sD_s {f w b j : Nat} {u : Nat → Nat} : sD A S f w u b (j + 1) = sD A S f w u b j + (if (aHs A f).testBit j = true then gb A S u w b j else 0) := rfl
theorem sD_no {f w b j : Nat} {u : Nat → Nat} (h : ¬ (aHs A f).testBit j = true) : sD A S f w u b (j + 1) = sD A S f w u b j := by rw [sD_s, if_neg h, Nat.add_zero]
theorem sD_yes {f w b j : Nat} {u : Nat → Nat} (h : (aHs A f).testBit j = true) : sD A S f w u b (j + 1) = sD A S f w u b j + gb A S u w b j := by rw [sD_s, if_pos h]
theorem sD_bd (hW : WV A) {f w b : Nat} {u : Nat → Nat} (j : Nat) : sD A S f w u b j ≤ j * 999 := fb_sm_bound (fun k _ => by
  split
  · exact gb_le hW _ _ _ _
  · omega)
theorem fb_pre {g : Nat → Nat} : ∀ d n, fb_sm g n ≤ fb_sm g (n + d)
  | 0, _ => Nat.le_refl _
  | d + 1, n => by
    have := fb_pre (g := g) d n
    show _ ≤ fb_sm g (n + d) + g (n + d)
    omega
/-- of all houses it is the flue's smoke -/
theorem sD_4 (hW : WV A) {f b : Nat} {u : Nat → Nat} : min (sD A S f (aWind A (tH S)) u b 4) 999 = sb A S u f b := by
  have h4 := hW.1.2.2.1
  have e : sD A S f (aWind A (tH S)) u b 4 = fb_sm (fun i => if aF A i = f then gb A S u (aWind A (tH S)) b i else 0) (aC A 2) := by
    unfold sD
    rw [show (4 : Nat) = aC A 2 + (4 - aC A 2) by omega, fb_more _ (fun i h1 h2 => ?_)]
    · refine fb_cong (fun i hi => ?_)
      by_cases c : aF A i = f
      · rw [if_pos (aHs_b.mpr ⟨hi, c⟩), if_pos c]
      · rw [if_neg (fun q => c (aHs_b.mp q).2), if_neg c]
    · rw [if_neg (fun q => by have := (aHs_b.mp q).1; omega)]
  unfold sb
  rw [e]
/-- a branch only adds -/
theorem sD_le {f w b j : Nat} {u v : Nat → Nat} (hj : j ≤ 4) (h : ∀ i, i < j → v i = u i) : sD A S f w u b j ≤ sD A S f w v b 4 := by
  have e : sD A S f w u b j = sD A S f w v b j := fb_cong (fun i hi => by
    unfold gb
    rw [h i hi])
  rw [e]
  have := fb_pre (g := fun i => if (aHs A f).testBit i = true then gb A S v w b i else 0) (4 - j) j
  rw [show j + (4 - j) = 4 by omega] at this
  exact this
theorem va_self {w : Nat → Nat} {j c : Nat} (h : w j = c) : va_up w j c = w := by
  funext i
  by_cases e : i = j
  · rw [e, va_eq, h]
  · rw [va_ne e]
theorem fb_one {f g : Nat → Nat} {j c : Nat} (hc : g j = f j + c) (ho : ∀ i, i ≠ j → g i = f i) : ∀ n, fb_sm g n = fb_sm f n + (if j < n then c else 0)
  | 0 => by rw [if_neg (Nat.not_lt_zero j)]; rfl
  | n + 1 => by
    show fb_sm g n + g n = fb_sm f n + f n + _
    rw [fb_one hc ho n]
    by_cases e : n = j
    · rw [e, hc, if_neg (Nat.lt_irrefl j), if_pos (Nat.lt_succ_self j)]
      omega
    · rw [ho n e]
      by_cases l : j < n
      · rw [if_pos l, if_pos (show j < n + 1 by omega)]; omega
      · rw [if_neg l, if_neg (show ¬ j < n + 1 by omega)]
        omega
theorem bn_up {w : Nat → Nat} {j g : Nat} (hj : j < 4) (h : w j = 5) (hg : g ≠ 5) : bn (va_up w j g) = bn w + 1 := by
  unfold bn
  rw [fb_one (j := j) (c := 1) (f := fun j => if w j = 5 then 0 else 1) (by
    show (if va_up w j g j = 5 then 0 else 1) = (if w j = 5 then 0 else 1) + 1
    rw [va_eq, if_neg hg, if_pos h]) (fun i hi => by
    show (if va_up w j g i = 5 then 0 else 1) = (if w i = 5 then 0 else 1)
    rw [va_ne hi]) 4, if_pos hj]
theorem sD_up {f w b j g : Nat} {u : Nat → Nat} : sD A S f w (va_up u j g) b j = sD A S f w u b j := fb_cong (fun i hi => by
  unfold gb
  rw [va_ne (by omega)])
theorem gb_up {w b j g : Nat} {u : Nat → Nat} (hz : tL S j = 0) (h5 : aC A 0 ≤ 5) (hg : g < aC A 0) : gb A S (va_up u j g) w b j = frc A w b g := by
  unfold gb frc
  rw [va_eq, if_neg (by omega), if_pos hg]
theorem gb_none (hT : WS A J S) {w b j : Nat} {u : Nat → Nat} (hj : j < 4) (hz : tL S j = 0) (h : u j = 5) : gb A S u w b j = 0 := by
  unfold gb
  rw [if_pos (Or.inr h)]
  exact gv_no hT hj hz
theorem gb_fire {w b j : Nat} {u : Nat → Nat} (hz : 0 < tL S j) : gb A S u w b j = gv A (tF S j) (tL S j) w b := by
  unfold gb
  rw [if_pos (Or.inl hz)]
theorem ws_bit {X n j : Nat} {p : Nat → Nat → Bool} {u : Nat → Nat} (h : X.testBit j = true) : ws X p (n + 1) j u = (cl6 (p j) 6 0).flatMap (fun f => ws X p n (j + 1) (va_up u j f)) := by
  show (if X.testBit j = true then _ else _) = _
  rw [if_pos h]
theorem ws_nob {X n j : Nat} {p : Nat → Nat → Bool} {u : Nat → Nat} (h : ¬ X.testBit j = true) : ws X p (n + 1) j u = ws X p n (j + 1) u := by
  show (if X.testBit j = true then _ else _) = _
  rw [if_neg h]
theorem rkX_n {V j : Nat} (h : ¬ V.testBit j = true) : rkX V (j + 1) = rkX V j := by
  show rkX V j + (if V.testBit j = true then 1 else 0) = _
  rw [if_neg h, Nat.add_zero]
theorem sD_cong {f w b j : Nat} {u v : Nat → Nat} (h : ∀ i, i < j → v i = u i) : sD A S f w v b j = sD A S f w u b j := fb_cong (fun i hi => by
  unfold gb
  rw [h i hi])
theorem nf_sub {f : Nat} : ∀ i, (noF A S f).testBit i = true → (aHs A f).testBit i = true := fun i z => aHs_b.mpr ⟨(noF_b.mp z).1, (noF_b.mp z).2.1⟩
theorem ni1 {k : Nat} (hk : k < 1000) : ¬ nI k = -1 := fun z => by
  have := congrArg Int32.toInt z
  rw [nI_toInt (by omega), show (-1 : Int32).toInt = -1 by decide] at this
  omega
theorem cm_5 : cm 5 = -1 := if_pos rfl
theorem cm_n {n : Nat} (h : n < 5) : cm n = nI n := if_neg (by omega)
end SP9
