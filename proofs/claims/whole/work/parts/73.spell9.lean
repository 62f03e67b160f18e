/-! The duty of spell: houses by their places; what they do in the second hour. -/
/-- the house at a place (4: none) -/
def hA (V i : Nat) : Nat → Nat → Nat
  | 0, _ => 4
  | n + 1, j => if V.testBit j = true ∧ rkX V j = i then j else hA V i n (j + 1)
def hP (V i : Nat) : Nat := hA V i 4 0
theorem hP_d : ∀ V, V < 16 → ∀ i, i < 4 → (hP V i = 4 ∧ rkX V 4 ≤ i) ∨ (hP V i < 4 ∧ V.testBit (hP V i) = true ∧ rkX V (hP V i) = i ∧ i < rkX V 4) := by decide +kernel
theorem hP_r : ∀ V, V < 16 → ∀ j, j < 4 → V.testBit j = true → hP V (rkX V j) = j := by decide +kernel
/-- behind first choice c: hours left, by what it burns, what is shown without a fuel, what may be lit -/
def tl2 (A : AV) (S : AS) (j c : Nat) : Nat := (if c = 5 then tL S j else aB A c) - 1
def ol2 (S : AS) (j c : Nat) : Nat := if c = 5 then tF S j - 1 else c
def idP (A : AV) (S : AS) (V i c : Nat) : Nat := if hP V i = 4 then 0 else if 0 < tl2 A S (hP V i) c then 6 + ol2 S (hP V i) c else 0
def frP (A : AV) (S : AS) (V i c : Nat) : Nat := if hP V i = 4 then 0 else if 0 < tl2 A S (hP V i) c then 0 else bts (fun g => decide ((if g = c then 1 else 0) < tT S (5 * hP V i + g))) (aC A 0)
/-- what a show gives -/
def dkP (A : AV) (S : AS) (V i s b : Nat) : Nat := if s < 6 then gv A s (aB A (s - 1)) (aWind A (tH S + 1)) b else gv A (s - 5) (if 0 < tL S (hP V i) then tL S (hP V i) - 1 else aB A (s - 6) - 1) (aWind A (tH S + 1)) b
/-- a choice that can be -/
def okc (A : AV) (S : AS) (V i c : Nat) : Prop := c = 5 ∨ (hP V i < 4 ∧ al A S (hP V i) c = true)
/-- the choice at a place -/
def cP (V : Nat) (u : Nat → Nat) (i : Nat) : Nat := if hP V i = 4 then 5 else u (hP V i)
def ccO (c : Nat) : Nat := if c = 5 then 0 else c + 1
/-- the show of a house; at a place -/
def shW (T : AS) (z : Nat → Nat) (j : Nat) : Nat := if 0 < tL T j then 6 + (tF T j - 1) else if z j = 5 then 0 else z j + 1
def sZ (T : AS) (V : Nat) (z : Nat → Nat) (p : Nat) : Nat := if hP V p = 4 then 0 else shW T z (hP V p)
/-- by these shows the second sign is read -/
def Sg (A : AV) (S : AS) (f : Nat) (w : Int32) (s : Nat → Nat) : Prop := aSign A (min (fb_sm (fun p => dkP A S (aHs A f) p (s p) 0) 4) 999) (min (fb_sm (fun p => dkP A S (aHs A f) p (s p) 1) 4) 999) = w
/-- by k fuels from place i on it can be read -/
def PW (A : AV) (S : AS) (f : Nat) (w : Int32) (u : Nat → Nat) : Nat → Nat → (Nat → Nat) → Nat → Prop
  | 0, _, s, k => Sg A S f w s ∧ k = 0
  | m + 1, i, s, k => PW A S f w u m (i + 1) (va_up s i (idP A S (aHs A f) i (cP (aHs A f) u i))) k ∨ ∃ g, (frP A S (aHs A f) i (cP (aHs A f) u i)).testBit g = true ∧ ∃ k', k = k' + 1 ∧ PW A S f w u m (i + 1) (va_up s i (g + 1)) k'
section PPA
variable {J V i j c g b f : Nat} {A : AV} {S : AS} {w : Int32} {u : Nat → Nat}
theorem al_c (h : al A S j c = true) (n5 : c ≠ 5) : c < aC A 0 ∧ tL S j = 0 ∧ 0 < tT S (5 * j + c) := by
  unfold al at h
  rw [Bool.or_eq_true, Bool.and_eq_true, decide_eq_true_eq, decide_eq_true_eq, decide_eq_true_eq] at h
  rcases h with e | e
  · exact absurd e n5
  · exact ⟨e.1, e.2.1, e.2.2⟩
theorem cl6_mem {p : Nat → Bool} : ∀ n f g, g ∈ cl6 p n f ↔ (f ≤ g ∧ g < f + n ∧ p g = true)
  | 0, f, g => by
    constructor
    · intro h
      exact absurd h (by simp [cl6])
    · intro h
      omega
  | n + 1, f, g => by
    unfold cl6
    by_cases c : p f = true
    · rw [if_pos c, List.mem_cons, cl6_mem n (f + 1) g]
      constructor
      · rintro (e | ⟨a, b, d⟩)
        · subst e
          exact ⟨Nat.le_refl _, by omega, c⟩
        · exact ⟨by omega, by omega, d⟩
      · rintro ⟨a, b, d⟩
        by_cases e : g = f
        · exact Or.inl e
        · exact Or.inr ⟨by omega, by omega, d⟩
    · rw [if_neg c, cl6_mem n (f + 1) g]
      constructor
      · rintro ⟨a, b, d⟩
        exact ⟨by omega, by omega, d⟩
      · rintro ⟨a, b, d⟩
        have : g ≠ f := fun e => c (by rw [← e]; exact d)
        exact ⟨by omega, by omega, d⟩
theorem cP_j (hV : V < 16) (hj : j < 4) (tj : V.testBit j = true) : cP V u (rkX V j) = u j := by
  unfold cP
  rw [hP_r V hV j hj tj, if_neg (by omega)]
theorem cP_up (hV : V < 16) (hj : j < 4) (tj : V.testBit j = true) {p : Nat} (hp : p < 4) : cP V (va_up u j g) p = if p = rkX V j then g else cP V u p := by
  by_cases e : p = rkX V j
  · rw [if_pos e, e, cP_j hV hj tj, va_eq]
  · rw [if_neg e]
    unfold cP
    rcases hP_d V hV p hp with ⟨a, -⟩ | ⟨a1, a2, a3, a4⟩
    · rw [if_pos a, if_pos a]
    · rw [if_neg (by omega), if_neg (by omega), va_ne (fun q => e (by rw [← a3, q]))]
theorem okc_lt (hW : WV A) (ok : okc A S V i c) : c ≤ 5 ∧ (c ≠ 5 → c < aC A 0 ∧ c < 5) := by
  have h5 := hW.1.1
  rcases ok with e | ⟨-, e⟩
  · exact ⟨by omega, fun z => absurd e z⟩
  · by_cases q : c = 5
    · exact ⟨by omega, fun z => absurd q z⟩
    · have := (al_c e q).1
      exact ⟨by omega, fun _ => by omega⟩
theorem idP_lt (hW : WV A) (hT : WS A J S) (hV : V < 16) (hi : i < 4) (ok : okc A S V i c) : idP A S V i c < 11 := by
  have h5 := hW.1.1
  have oc := okc_lt hW ok
  unfold idP
  rcases hP_d V hV i hi with ⟨a, -⟩ | ⟨a1, -, -, -⟩
  · rw [if_pos a]; omega
  · rw [if_neg (by omega)]
    have tF := (hT.2.1 _ a1).2.1
    by_cases q : 0 < tl2 A S (hP V i) c
    · rw [if_pos q]
      unfold ol2
      by_cases e : c = 5
      · rw [if_pos e]; omega
      · rw [if_neg e]
        have := oc.2 e
        omega
    · rw [if_neg q]; omega
theorem frP_lt (hW : WV A) : frP A S V i c < 2 ^ 5 := by
  have h5 := hW.1.1
  unfold frP
  by_cases a : hP V i = 4
  · rw [if_pos a]; decide
  · rw [if_neg a]
    by_cases q : 0 < tl2 A S (hP V i) c
    · rw [if_pos q]; decide
    · rw [if_neg q]
      exact Nat.lt_of_lt_of_le (bts_lt _ _) (Nat.pow_le_pow_right (by decide) h5)
theorem frP_b : (frP A S V i c).testBit g = true ↔ (hP V i ≠ 4 ∧ tl2 A S (hP V i) c = 0 ∧ g < aC A 0 ∧ (if g = c then 1 else 0) < tT S (5 * hP V i + g)) := by
  unfold frP
  by_cases a : hP V i = 4
  · rw [if_pos a, Nat.zero_testBit]
    exact ⟨fun z => absurd z (by decide), fun z => absurd a z.1⟩
  · rw [if_neg a]
    by_cases q : 0 < tl2 A S (hP V i) c
    · rw [if_pos q, Nat.zero_testBit]
      exact ⟨fun z => absurd z (by decide), fun z => by omega⟩
    · rw [if_neg q, bts_tb, Bool.and_eq_true, decide_eq_true_eq, decide_eq_true_eq]
      exact ⟨fun z => ⟨a, by omega, z.1, z.2⟩, fun z => ⟨z.2.2.1, z.2.2.2⟩⟩
theorem dkP_le (hW : WV A) (V i s b : Nat) : dkP A S V i s b ≤ 999 := by
  unfold dkP
  by_cases c : s < 6
  · rw [if_pos c]; exact gv_le hW _ _ _ _
  · rw [if_neg c]; exact gv_le hW _ _ _ _
theorem dkP_0 : dkP A S V i 0 b = 0 := by
  unfold dkP gv
  rw [if_pos (by decide), if_pos (Or.inl rfl)]
theorem psum {G q : Nat → Nat} (hG : ∀ j, j < 4 → V.testBit j = true → G (rkX V j) = q j) (h0 : ∀ i, rkX V 4 ≤ i → i < 4 → G i = 0) : fb_sm G 4 = fb_sm (fun j => if V.testBit j = true then q j else 0) 4 := by
  have st : ∀ n, n ≤ 4 → fb_sm G (rkX V n) = fb_sm (fun j => if V.testBit j = true then q j else 0) n := by
    intro n
    induction n with
    | zero => intro _; rfl
    | succ n ih =>
      intro hn
      have ih := ih (by omega)
      show _ = fb_sm (fun j => if V.testBit j = true then q j else 0) n + (if V.testBit n = true then q n else 0)
      rw [← ih]
      by_cases t : V.testBit n = true
      · rw [rkX_s t, if_pos t]
        show fb_sm G (rkX V n) + G (rkX V n) = _
        rw [hG n (by omega) t]
      · rw [rkX_n t, if_neg t, Nat.add_zero]
  have r4 := rkX_le V 4
  rw [← st 4 (Nat.le_refl 4)]
  have := fb_more (g := G) (n := rkX V 4) (4 - rkX V 4) (fun i h1 h2 => h0 i h1 (by omega))
  rw [show rkX V 4 + (4 - rkX V 4) = 4 by omega] at this
  exact this
theorem Sg_cong {s s' : Nat → Nat} (h : ∀ p, p < 4 → s p = s' p) : Sg A S f w s ↔ Sg A S f w s' := by
  have e : ∀ b, fb_sm (fun p => dkP A S (aHs A f) p (s p) b) 4 = fb_sm (fun p => dkP A S (aHs A f) p (s' p) b) 4 := fun b => fb_cong (fun p hp => congrArg (fun t => dkP A S (aHs A f) p t b) (h p hp))
  unfold Sg
  rw [e 0, e 1]
theorem up_cong {s s' : Nat → Nat} {x x' : Nat} (e : x = x') (h : ∀ p, p < i → s p = s' p) : ∀ p, p < i + 1 → va_up s i x p = va_up s' i x' p := fun p hp => by
  by_cases q : p = i
  · rw [q, va_eq, va_eq, e]
  · rw [va_ne q, va_ne q]
    exact h p (by omega)
theorem PW_cong : ∀ m i (s s' : Nat → Nat) k, i + m = 4 → (∀ p, p < i → s p = s' p) → PW A S f w u m i s k → PW A S f w u m i s' k
  | 0, i, s, s', k, hm, h, p => ⟨(Sg_cong (fun q hq => h q (by omega))).mp p.1, p.2⟩
  | m + 1, i, s, s', k, hm, h, p => by
    rcases p with a | ⟨g, g1, k', e, a⟩
    · exact Or.inl (PW_cong m (i + 1) _ _ k (by omega) (up_cong rfl h) a)
    · exact Or.inr ⟨g, g1, k', e, PW_cong m (i + 1) _ _ k' (by omega) (up_cong rfl h) a⟩
theorem PW_dum : ∀ m i (s : Nat → Nat) k, i + m = 4 → (∀ p, i ≤ p → p < 4 → hP (aHs A f) p = 4) → (PW A S f w u m i s k ↔ (Sg A S f w (fun p => if p < i then s p else 0) ∧ k = 0))
  | 0, i, s, k, hm, h => by
    have e : Sg A S f w (fun p => if p < i then s p else 0) ↔ Sg A S f w s := Sg_cong (fun p hp => if_pos (by omega))
    rw [e]
    exact Iff.rfl
  | m + 1, i, s, k, hm, h => by
    have h4 := h i (Nat.le_refl i) (by omega)
    have ei : idP A S (aHs A f) i (cP (aHs A f) u i) = 0 := if_pos h4
    have ih := PW_dum m (i + 1) (va_up s i 0) k (by omega) (fun p h1 h2 => h p (by omega) h2)
    have e : Sg A S f w (fun p => if p < i + 1 then va_up s i 0 p else 0) ↔ Sg A S f w (fun p => if p < i then s p else 0) := Sg_cong (fun p hp => by
      show (if p < i + 1 then va_up s i 0 p else 0) = (if p < i then s p else 0)
      by_cases q : p = i
      · rw [if_pos (by omega), if_neg (by omega), q, va_eq]
      · by_cases l : p < i
        · rw [if_pos (by omega), if_pos l, va_ne q]
        · rw [if_neg (by omega), if_neg l])
    rw [e] at ih
    constructor
    · rintro (a | ⟨g, g1, -⟩)
      · rw [ei] at a
        exact ih.mp a
      · exact absurd h4 (frP_b.mp g1).1
    · intro a
      refine Or.inl ?_
      rw [ei]
      exact ih.mpr a
end PPA
