/-! The duty of spell: one house more. -/
section SPA
variable {J : Nat} {A : AV} {S : AS}
theorem scL_le {f c : Nat} {w : Int32} : ∀ l b, scL A S f w c l b ≤ b
  | [], _ => Nat.le_refl _
  | u :: us, b => by
    have a := scL_le (f := f) (c := c) (w := w) us (sc1 A S f w c b u)
    have q : sc1 A S f w c b u ≤ b := by
      unfold sc1
      split
      · rename_i z; omega
      · exact Nat.le_refl _
    exact Nat.le_trans a q
theorem spL_le {f : Nat} {w1 w2 : Int32} : ∀ l st, (spL A S f w1 w2 l st).1 ≤ st.1
  | [], _ => Nat.le_refl _
  | u :: us, st => by
    have a := spL_le (f := f) (w1 := w1) (w2 := w2) us (spS A S f w1 w2 st u)
    have q : (spS A S f w1 w2 st u).1 ≤ st.1 := by
      unfold spS
      split
      · rename_i z
        show bn u + sp2 A S f w2 u ≤ st.1
        omega
      · exact Nat.le_refl _
    exact Nat.le_trans a q
theorem va_self {w : Nat → Nat} {j c : Nat} (h : w j = c) : va_up w j c = w := by
  funext i
  by_cases e : i = j
  · rw [e, va_eq, h]
  · rw [va_ne e]
theorem fb_one {f g : Nat → Nat} {j c : Nat} (hc : g j = f j + c) (ho : ∀ i, i ≠ j → g i = f i) : ∀ n, fb_sm g n = fb_sm f n + (if j < n then c else 0)
  | 0 => by rw [if_neg (Nat.not_lt_zero j)]; rfl
  | n + 1 => by
    show fb_sm g n + g n = fb_sm f n + f n + _
    rw [fb_one hc ho n]
    by_cases e : n = j
    · rw [e, hc, if_neg (Nat.lt_irrefl j), if_pos (Nat.lt_succ_self j)]
      omega
    · rw [ho n e]
      by_cases l : j < n
      · rw [if_pos l, if_pos (show j < n + 1 by omega)]; omega
      · rw [if_neg l, if_neg (show ¬ j < n + 1 by omega)]
        omega
theorem bn_up {w : Nat → Nat} {j g : Nat} (hj : j < 4) (h : w j = 5) (hg : g ≠ 5) : bn (va_up w j g) = bn w + 1 := by
  unfold bn
  rw [fb_one (j := j) (c := 1) (f := fun j => if w j = 5 then 0 else 1) (by
    show (if va_up w j g j = 5 then 0 else 1) = (if w j = 5 then 0 else 1) + 1
    rw [va_eq, if_neg hg, if_pos h]) (fun i hi => by
    show (if va_up w j g i = 5 then 0 else 1) = (if w i = 5 then 0 else 1)
    rw [va_ne hi]) 4, if_pos hj]
theorem sD_up {f w b j g : Nat} {u : Nat → Nat} : sD A S f w (va_up u j g) b j = sD A S f w u b j := fb_cong (fun i hi => by
  unfold gb
  rw [va_ne (by omega)])
theorem gb_up {w b j g : Nat} {u : Nat → Nat} (hz : tL S j = 0) (h5 : aC A 0 ≤ 5) (hg : g < aC A 0) : gb A S (va_up u j g) w b j = frc A w b g := by
  unfold gb frc
  rw [va_eq, if_neg (by omega), if_pos hg]
theorem gb_none (hT : WS A J S) {w b j : Nat} {u : Nat → Nat} (hj : j < 4) (hz : tL S j = 0) (h : u j = 5) : gb A S u w b j = 0 := by
  unfold gb
  rw [if_pos (Or.inr h)]
  exact gv_no hT hj hz
theorem gb_fire {w b j : Nat} {u : Nat → Nat} (hz : 0 < tL S j) : gb A S u w b j = gv A (tF S j) (tL S j) w b := by
  unfold gb
  rw [if_pos (Or.inl hz)]
theorem ws_bit {X n j : Nat} {p : Nat → Nat → Bool} {u : Nat → Nat} (h : X.testBit j = true) : ws X p (n + 1) j u = (cl6 (p j) 6 0).flatMap (fun f => ws X p n (j + 1) (va_up u j f)) := by
  show (if X.testBit j = true then _ else _) = _
  rw [if_pos h]
theorem ws_nob {X n j : Nat} {p : Nat → Nat → Bool} {u : Nat → Nat} (h : ¬ X.testBit j = true) : ws X p (n + 1) j u = ws X p n (j + 1) u := by
  show (if X.testBit j = true then _ else _) = _
  rw [if_neg h]
theorem rkX_n {V j : Nat} (h : ¬ V.testBit j = true) : rkX V (j + 1) = rkX V j := by
  show rkX V j + (if V.testBit j = true then 1 else 0) = _
  rw [if_neg h, Nat.add_zero]
end SPA
