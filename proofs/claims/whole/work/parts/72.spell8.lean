/-! The duty of spell: the sums along a search, and what bounds them. -/
/-- what the houses below j give by w, raw -/
def sD (A : AV) (S : AS) (f w : Nat) (u : Nat → Nat) (b j : Nat) : Nat := fb_sm (fun i => if (aHs A f).testBit i = true then gb A S u w b i else 0) j
section SP9
variable {J : Nat} {A : AV} {S : AS}
theorem sD_s {f w b j : Nat} {u : Nat → Nat} : sD A S f w u b (j + 1) = sD A S f w u b j + (if (aHs A f).testBit j = true then gb A S u w b j else 0) := rfl
theorem sD_no {f w b j : Nat} {u : Nat → Nat} (h : ¬ (aHs A f).testBit j = true) : sD A S f w u b (j + 1) = sD A S f w u b j := by rw [sD_s, if_neg h, Nat.add_zero]
theorem sD_yes {f w b j : Nat} {u : Nat → Nat} (h : (aHs A f).testBit j = true) : sD A S f w u b (j + 1) = sD A S f w u b j + gb A S u w b j := by rw [sD_s, if_pos h]
theorem sD_bd (hW : WV A) {f w b : Nat} {u : Nat → Nat} (j : Nat) : sD A S f w u b j ≤ j * 999 := fb_sm_bound (fun k _ => by
  split
  · exact gb_le hW _ _ _ _
  · omega)
theorem fb_pre {g : Nat → Nat} : ∀ d n, fb_sm g n ≤ fb_sm g (n + d)
  | 0, _ => Nat.le_refl _
  | d + 1, n => by
    have := fb_pre (g := g) d n
    show _ ≤ fb_sm g (n + d) + g (n + d)
    omega
/-- of all houses it is the flue's smoke -/
theorem sD_4 (hW : WV A) {f b : Nat} {u : Nat → Nat} : min (sD A S f (aWind A (tH S)) u b 4) 999 = sb A S u f b := by
  have h4 := hW.1.2.2.1
  have e : sD A S f (aWind A (tH S)) u b 4 = fb_sm (fun i => if aF A i = f then gb A S u (aWind A (tH S)) b i else 0) (aC A 2) := by
    unfold sD
    rw [show (4 : Nat) = aC A 2 + (4 - aC A 2) by omega, fb_more _ (fun i h1 h2 => ?_)]
    · refine fb_cong (fun i hi => ?_)
      by_cases c : aF A i = f
      · rw [if_pos (aHs_b.mpr ⟨hi, c⟩), if_pos c]
      · rw [if_neg (fun q => c (aHs_b.mp q).2), if_neg c]
    · rw [if_neg (fun q => by have := (aHs_b.mp q).1; omega)]
  unfold sb
  rw [e]
/-- a branch only adds -/
theorem sD_le {f w b j : Nat} {u v : Nat → Nat} (hj : j ≤ 4) (h : ∀ i, i < j → v i = u i) : sD A S f w u b j ≤ sD A S f w v b 4 := by
  have e : sD A S f w u b j = sD A S f w v b j := fb_cong (fun i hi => by
    unfold gb
    rw [h i hi])
  rw [e]
  have := fb_pre (g := fun i => if (aHs A f).testBit i = true then gb A S v w b i else 0) (4 - j) j
  rw [show j + (4 - j) = 4 by omega] at this
  exact this
theorem va_self {w : Nat → Nat} {j c : Nat} (h : w j = c) : va_up w j c = w := by
  funext i
  by_cases e : i = j
  · rw [e, va_eq, h]
  · rw [va_ne e]
theorem fb_one {f g : Nat → Nat} {j c : Nat} (hc : g j = f j + c) (ho : ∀ i, i ≠ j → g i = f i) : ∀ n, fb_sm g n = fb_sm f n + (if j < n then c else 0)
  | 0 => by rw [if_neg (Nat.not_lt_zero j)]; rfl
  | n + 1 => by
    show fb_sm g n + g n = fb_sm f n + f n + _
    rw [fb_one hc ho n]
    by_cases e : n = j
    · rw [e, hc, if_neg (Nat.lt_irrefl j), if_pos (Nat.lt_succ_self j)]
      omega
    · rw [ho n e]
      by_cases l : j < n
      · rw [if_pos l, if_pos (show j < n + 1 by omega)]; omega
      · rw [if_neg l, if_neg (show ¬ j < n + 1 by omega)]
        omega
theorem bn_up {w : Nat → Nat} {j g : Nat} (hj : j < 4) (h : w j = 5) (hg : g ≠ 5) : bn (va_up w j g) = bn w + 1 := by
  unfold bn
  rw [fb_one (j := j) (c := 1) (f := fun j => if w j = 5 then 0 else 1) (by
    show (if va_up w j g j = 5 then 0 else 1) = (if w j = 5 then 0 else 1) + 1
    rw [va_eq, if_neg hg, if_pos h]) (fun i hi => by
    show (if va_up w j g i = 5 then 0 else 1) = (if w i = 5 then 0 else 1)
    rw [va_ne hi]) 4, if_pos hj]
theorem sD_up {f w b j g : Nat} {u : Nat → Nat} : sD A S f w (va_up u j g) b j = sD A S f w u b j := fb_cong (fun i hi => by
  unfold gb
  rw [va_ne (by omega)])
theorem gb_up {w b j g : Nat} {u : Nat → Nat} (hz : tL S j = 0) (h5 : aC A 0 ≤ 5) (hg : g < aC A 0) : gb A S (va_up u j g) w b j = frc A w b g := by
  unfold gb frc
  rw [va_eq, if_neg (by omega), if_pos hg]
theorem gb_none (hT : WS A J S) {w b j : Nat} {u : Nat → Nat} (hj : j < 4) (hz : tL S j = 0) (h : u j = 5) : gb A S u w b j = 0 := by
  unfold gb
  rw [if_pos (Or.inr h)]
  exact gv_no hT hj hz
theorem gb_fire {w b j : Nat} {u : Nat → Nat} (hz : 0 < tL S j) : gb A S u w b j = gv A (tF S j) (tL S j) w b := by
  unfold gb
  rw [if_pos (Or.inl hz)]
theorem ws_bit {X n j : Nat} {p : Nat → Nat → Bool} {u : Nat → Nat} (h : X.testBit j = true) : ws X p (n + 1) j u = (cl6 (p j) 6 0).flatMap (fun f => ws X p n (j + 1) (va_up u j f)) := by
  show (if X.testBit j = true then _ else _) = _
  rw [if_pos h]
theorem ws_nob {X n j : Nat} {p : Nat → Nat → Bool} {u : Nat → Nat} (h : ¬ X.testBit j = true) : ws X p (n + 1) j u = ws X p n (j + 1) u := by
  show (if X.testBit j = true then _ else _) = _
  rw [if_neg h]
theorem rkX_n {V j : Nat} (h : ¬ V.testBit j = true) : rkX V (j + 1) = rkX V j := by
  show rkX V j + (if V.testBit j = true then 1 else 0) = _
  rw [if_neg h, Nat.add_zero]
/-- what the houses from j on add at most -/
def tlS (V : Nat) (g : Nat → Nat) : Nat → Nat → Nat
  | 0, _ => 0
  | n + 1, j => (if V.testBit j = true then g j else 0) + tlS V g n (j + 1)
theorem tlS_no {V n j : Nat} {g : Nat → Nat} (h : ¬ V.testBit j = true) : tlS V g (n + 1) j = tlS V g n (j + 1) := by
  show (if V.testBit j = true then g j else 0) + _ = _
  rw [if_neg h, Nat.zero_add]
theorem tlS_yes {V n j : Nat} {g : Nat → Nat} (h : V.testBit j = true) : tlS V g (n + 1) j = g j + tlS V g n (j + 1) := by
  show (if V.testBit j = true then g j else 0) + _ = _
  rw [if_pos h]
theorem tlS_bd {V b : Nat} {g : Nat → Nat} (h : ∀ i, g i ≤ b) : ∀ n j, tlS V g n j ≤ n * b
  | 0, _ => Nat.zero_le _
  | n + 1, j => by
    have a := tlS_bd (V := V) h n (j + 1)
    have c := h j
    by_cases t : V.testBit j = true
    · rw [tlS_yes t, Nat.succ_mul]; omega
    · rw [tlS_no t, Nat.succ_mul]; omega
theorem sD_tail {f w b : Nat} {v g : Nat → Nat} : ∀ n j, (∀ i, j ≤ i → i < j + n → gb A S v w b i ≤ g i) → sD A S f w v b (j + n) ≤ sD A S f w v b j + tlS (aHs A f) g n j
  | 0, j, _ => Nat.le_refl _
  | n + 1, j, h => by
    have ih := sD_tail (f := f) (w := w) (b := b) (v := v) (g := g) n (j + 1) (fun i h1 h2 => h i (by omega) (by omega))
    have hj := h j (Nat.le_refl j) (by omega)
    rw [show j + (n + 1) = j + 1 + n by omega]
    by_cases t : (aHs A f).testBit j = true
    · rw [sD_yes t] at ih
      rw [tlS_yes t]
      omega
    · rw [sD_no t] at ih
      rw [tlS_no t]
      exact ih
theorem sD_cong {f w b j : Nat} {u v : Nat → Nat} (h : ∀ i, i < j → v i = u i) : sD A S f w v b j = sD A S f w u b j := fb_cong (fun i hi => by
  unfold gb
  rw [h i hi])
/-- behind houses below j whose sums lie astray no way tells that sign -/
theorem as_ws (hW : WV A) {X f n j d s : Nat} {u : Nat → Nat} {w : Int32} {g0 g1 : Nat → Nat} (hn : n + j = 4) (ed : d = sD A S f (aWind A (tH S)) u 0 j) (es : s = sD A S f (aWind A (tH S)) u 1 j) (hu : ∀ i, j ≤ i → u i = 5) (hg : ∀ v i, i < 4 → (v i = 5 ∨ al A S i (v i) = true) → gb A S v (aWind A (tH S)) 0 i ≤ g0 i ∧ gb A S v (aWind A (tH S)) 1 i ≤ g1 i) (hw : w = -1 ∨ ∃ k, k < aC A 3 ∧ w = nI k) (t : asT A w d s (d + tlS (aHs A f) g0 n j) (s + tlS (aHs A f) g1 n j) = true) : ∀ v, v ∈ ws X (al A S) n j u → sbs A S v f ≠ w := fun v hv => by
  have pre := ws_pre n j u v hv
  have all := ws_all n j u v hv
  have hv5 : ∀ i, j ≤ i → v i = 5 ∨ al A S i (v i) = true := fun i hi => by
    rcases all i with e | ⟨-, e⟩
    · exact Or.inl (e.trans (hu i hi))
    · exact Or.inr e
  have a0 := sD_le (A := A) (S := S) (f := f) (w := aWind A (tH S)) (b := 0) (show j ≤ 4 by omega) pre
  have a1 := sD_le (A := A) (S := S) (f := f) (w := aWind A (tH S)) (b := 1) (show j ≤ 4 by omega) pre
  have c0 := sD_tail (A := A) (S := S) (f := f) (w := aWind A (tH S)) (b := 0) (v := v) (g := g0) n j (fun i h1 h2 => (hg v i (by omega) (hv5 i h1)).1)
  have c1 := sD_tail (A := A) (S := S) (f := f) (w := aWind A (tH S)) (b := 1) (v := v) (g := g1) n j (fun i h1 h2 => (hg v i (by omega) (hv5 i h1)).2)
  rw [show j + n = 4 by omega, sD_cong (A := A) (S := S) (f := f) pre] at c0 c1
  have x0 := sD_4 (A := A) (S := S) hW (f := f) (b := 0) (u := v)
  have x1 := sD_4 (A := A) (S := S) hW (f := f) (b := 1) (u := v)
  refine as_no hW (d := d) (s := s) (d' := d + tlS (aHs A f) g0 n j) (s' := s + tlS (aHs A f) g1 n j) ?_ ?_ ?_ ?_ hw t
  · rw [← x0]; omega
  · rw [← x0]; omega
  · rw [← x1]; omega
  · rw [← x1]; omega
/-- a way lights no more than there are houses -/
theorem bn_rk {X V : Nat} {p : Nat → Nat → Bool} (hX : ∀ i, X.testBit i = true → V.testBit i = true) : ∀ n j u v, n + j = 4 → (∀ i, j ≤ i → u i = 5) → v ∈ ws X p n j u → bn v + rkX V j ≤ bn u + rkX V 4
  | 0, j, u, v, hn, hu, hv => by
    have e : v = u := List.mem_singleton.mp hv
    have ej : j = 4 := by omega
    rw [e, ej]
    exact Nat.le_refl _
  | n + 1, j, u, v, hn, hu, hv => by
    by_cases t : X.testBit j = true
    · rw [ws_bit t] at hv
      obtain ⟨g, hg, hv⟩ := List.mem_flatMap.mp hv
      have ih := bn_rk hX n (j + 1) (va_up u j g) v (by omega) (fun i hi => by rw [va_ne (by omega)]; exact hu i (by omega)) hv
      rw [rkX_s (hX j t)] at ih
      by_cases e : g = 5
      · rw [e, va_self (hu j (Nat.le_refl j))] at ih
        omega
      · rw [bn_up (by omega) (hu j (Nat.le_refl j)) e] at ih
        omega
    · rw [ws_nob t] at hv
      have ih := bn_rk hX n (j + 1) u v (by omega) (fun i hi => hu i (by omega)) hv
      have := rkX_mono V (j := j) 1
      omega
theorem nf_sub {f : Nat} : ∀ i, (noF A S f).testBit i = true → (aHs A f).testBit i = true := fun i z => aHs_b.mpr ⟨(noF_b.mp z).1, (noF_b.mp z).2.1⟩
end SP9
