/-! Pure part. Abstract valleys and states over Nat; what of the typed heap stands for them; the small readers of both sides. -/
section PB
variable {α ρ σ : Type}
theorem ck_t {d : Decidable True} {k : Option α} : @ck α True d k = k := by unfold ck; rw [if_pos trivial]
theorem ck_p {c : Prop} {d : Decidable c} {k : Option α} (h : c) : @ck α c d k = k := by unfold ck; rw [if_pos h]
theorem rq_s {a : Nat} {k : Nat → Option α} : rq (some a) k = k a := rfl
theorem bd_e {β : Type} {v : β} {k : β → Option α} : bd v k = k v := rfl
theorem cl_s {r : ρ} {h : PH} {k : ρ → PH → Option α} : cl (some (r, h)) k = k r h := rfl
theorem wp_s {r : ρ} {h : PH} {Q : ρ → PH → Prop} : wp (some (r, h)) Q ↔ Q r h := ⟨fun q => wp_ret q, fun q => ⟨r, h, rfl, q⟩⟩
theorem wp_e {o : Option (ρ × PH)} {r : ρ} {h : PH} {Q : ρ → PH → Prop} (e : o = some (r, h)) (q : Q r h) : wp o Q := ⟨r, h, e, q⟩
end PB
/-- the same kinds, lengths, references and constants -/
def Sm (h h' : PH) : Prop := hK h' = hK h ∧ hN h' = hN h ∧ hR h' = hR h ∧ hW h' = hW h
theorem Sm.rfl' {h : PH} : Sm h h := ⟨rfl, rfl, rfl, rfl⟩
theorem Sm.trans {h h1 h2 : PH} (p : Sm h h1) (q : Sm h1 h2) : Sm h h2 := ⟨q.1.trans p.1, q.2.1.trans p.2.1, q.2.2.1.trans p.2.2.1, q.2.2.2.trans p.2.2.2⟩
theorem Sm.sI {h : PH} {a k : Nat} {v : Int32} : Sm h (sI h a k v) := ⟨rfl, rfl, rfl, rfl⟩
theorem Sm.sRow {h : PH} {a : Nat} {f : Nat → Int32} : Sm h (sRow h a f) := ⟨rfl, rfl, rfl, rfl⟩
theorem Sm.sJ {h : PH} {a k : Nat} {v : Int64} : Sm h (sJ h a k v) := ⟨rfl, rfl, rfl, rfl⟩
/-- an array of ints: kind and length -/
def IA (h : PH) (a n : Nat) : Prop := hK h a = 12 ∧ hN h a = n
/-- a State at a: stock, fuel, left, soot behind it -/
def ST (h : PH) (a : Nat) : Prop := hK h a = 4 ∧ (hR h a 1 = some (a + 1) ∧ hR h a 2 = some (a + 2) ∧ hR h a 3 = some (a + 3) ∧ hR h a 4 = some (a + 4)) ∧ IA h (a + 1) 20 ∧ IA h (a + 2) 4 ∧ IA h (a + 3) 4 ∧ IA h (a + 4) 3
/-- a Valley at a -/
def VL (h : PH) (a : Nat) : Prop := hK h a = 6 ∧ (hR h a 0 = some (a + 1) ∧ hR h a 1 = some (a + 2) ∧ hR h a 2 = some (a + 3) ∧ hR h a 3 = some (a + 4) ∧ hR h a 4 = some (a + 5) ∧ hR h a 5 = some (a + 6) ∧ hR h a 6 = some (a + 7) ∧ hR h a 8 = some (a + 8) ∧ hR h a 9 = some (a + 9) ∧ hR h a 10 = some (a + 10) ∧ hR h a 12 = some (a + 11) ∧ hR h a 13 = some (a + 14) ∧ hR h a 14 = some (a + 17)) ∧ (IA h (a + 1) 5 ∧ (hK h (a + 2) = 14 ∧ hN h (a + 2) = 30) ∧ IA h (a + 3) 5 ∧ IA h (a + 4) 5 ∧ IA h (a + 5) 5 ∧ IA h (a + 6) 4 ∧ IA h (a + 7) 20 ∧ IA h (a + 8) 24 ∧ IA h (a + 9) 4 ∧ IA h (a + 10) 12 ∧ IA h (a + 17) 1000) ∧ (hK h (a + 11) = 1 ∧ hR h (a + 11) 1 = some (a + 12) ∧ hR h (a + 11) 2 = some (a + 13) ∧ IA h (a + 12) 1000 ∧ IA h (a + 13) 32) ∧ (hK h (a + 14) = 1 ∧ hR h (a + 14) 1 = some (a + 15) ∧ hR h (a + 14) 2 = some (a + 16) ∧ IA h (a + 15) 1000 ∧ IA h (a + 16) 32)
theorem IA.sm {h h' : PH} {a n : Nat} (s : Sm h h') (p : IA h a n) : IA h' a n := by unfold IA at p ⊢; rw [s.1, s.2.1]; exact p
theorem ST.sm {h h' : PH} {a : Nat} (s : Sm h h') (p : ST h a) : ST h' a := by unfold ST IA at p ⊢; rw [s.1, s.2.1, s.2.2.1]; exact p
theorem VL.sm {h h' : PH} {a : Nat} (s : Sm h h') (p : VL h a) : VL h' a := by unfold VL IA at p ⊢; rw [s.1, s.2.1, s.2.2.1]; exact p
/-- an abstract valley: counts (fuels, flues, houses, signs, watchers, winds), dark, sweet, burns of fuels, flue of houses, stock, ranges, sights, winds, what a fire gives (fuel, left, wind, by), what soot comes (dark, sweet, wind) -/
abbrev AV : Type := (Nat → Nat) × (Nat → Nat) × (Nat → Nat) × (Nat → Nat) × (Nat → Nat) × (Nat → Nat) × (Nat → Nat) × (Nat → Nat) × (Nat → Nat) × (Nat → Nat → Nat → Nat → Nat) × (Nat → Nat → Nat → Nat)
def aC (A : AV) : Nat → Nat := A.1
def aD (A : AV) : Nat → Nat := A.2.1
def aS (A : AV) : Nat → Nat := A.2.2.1
def aB (A : AV) : Nat → Nat := A.2.2.2.1
def aF (A : AV) : Nat → Nat := A.2.2.2.2.1
def aT (A : AV) : Nat → Nat := A.2.2.2.2.2.1
def aR (A : AV) : Nat → Nat := A.2.2.2.2.2.2.1
def aG (A : AV) : Nat → Nat := A.2.2.2.2.2.2.2.1
def aW (A : AV) : Nat → Nat := A.2.2.2.2.2.2.2.2.1
def aV (A : AV) : Nat → Nat → Nat → Nat → Nat := A.2.2.2.2.2.2.2.2.2.1
def aO (A : AV) : Nat → Nat → Nat → Nat := A.2.2.2.2.2.2.2.2.2.2
/-- what every told valley keeps to -/
def WV (A : AV) : Prop := (aC A 0 ≤ 5 ∧ aC A 1 ≤ 3 ∧ aC A 2 ≤ 4 ∧ aC A 3 ≤ 6 ∧ aC A 4 ≤ 4 ∧ aC A 5 ≤ 12) ∧ (∀ f, f < aC A 0 → aD A f ≤ 99 ∧ aS A f ≤ 99 ∧ 1 ≤ aB A f ∧ aB A f ≤ 9) ∧ (∀ i, i < aC A 2 → aF A i < aC A 1) ∧ (∀ k, k < 20 → aT A k ≤ 99) ∧ (∀ i f, i < 4 → f < 5 → (aC A 2 ≤ i ∨ aC A 0 ≤ f) → aT A (5 * i + f) = 0) ∧ (∀ k, k < aC A 3 → aR A (4 * k) ≤ aR A (4 * k + 1) ∧ aR A (4 * k + 1) ≤ 999 ∧ aR A (4 * k + 2) ≤ aR A (4 * k + 3) ∧ aR A (4 * k + 3) ≤ 999) ∧ (∀ k, k < aC A 4 → aG A k ≤ 2) ∧ (∀ k, k < aC A 5 → aW A k ≤ 9) ∧ (∀ f l w b, aV A f l w b ≤ 999) ∧ ∀ d s w, aO A d s w ≤ 999
/-- the wind of an hour -/
def aWind (A : AV) (t : Nat) : Nat := if aC A 5 = 0 then 0 else aW A (t % aC A 5)
/-- an abstract state: the hour, the fires' fuels (0: none, f + 1), what is left, stock, soot -/
abbrev AS : Type := Nat × (Nat → Nat) × (Nat → Nat) × (Nat → Nat) × (Nat → Nat)
def tH (S : AS) : Nat := S.1
def tF (S : AS) : Nat → Nat := S.2.1
def tL (S : AS) : Nat → Nat := S.2.2.1
def tT (S : AS) : Nat → Nat := S.2.2.2.1
def tS (S : AS) : Nat → Nat := S.2.2.2.2
/-- what every state keeps to; J: no hour is later -/
def WS (A : AV) (J : Nat) (S : AS) : Prop := tH S ≤ J ∧ (∀ i, i < 4 → tL S i ≤ 9 ∧ tF S i ≤ aC A 0 ∧ (tL S i = 0 ↔ tF S i = 0) ∧ (aC A 2 ≤ i → tL S i = 0)) ∧ (∀ k, k < 20 → tT S k ≤ 99) ∧ (∀ i f, i < 4 → f < 5 → (aC A 2 ≤ i ∨ aC A 0 ≤ f) → tT S (5 * i + f) = 0) ∧ ∀ f, f < 3 → tS S f ≤ 9999
/-- the class's State at a stands for S -/
def CS (h : PH) (a : Nat) (S : AS) : Prop := hI h a 0 = nI (tH S) ∧ (∀ k, k < 20 → hI h (a + 1) k = nI (tT S k)) ∧ (∀ k, k < 4 → hI h (a + 2) k = nI (tF S k) + (-1)) ∧ (∀ k, k < 4 → hI h (a + 3) k = nI (tL S k)) ∧ ∀ k, k < 3 → hI h (a + 4) k = nI (tS S k)
/-- the class's Valley at a has these counts and rows (its laws and its kept gifts aside) -/
def CV (h : PH) (a : Nat) (A : AV) : Prop := (∀ k, k < 5 → hI h (a + 1) k = nI (aC A k)) ∧ hI h a 11 = nI (aC A 5) ∧ (∀ k, k < aC A 0 → hI h (a + 3) k = nI (aD A k) ∧ hI h (a + 4) k = nI (aS A k) ∧ hI h (a + 5) k = nI (aB A k)) ∧ (∀ k, k < aC A 2 → hI h (a + 6) k = nI (aF A k)) ∧ (∀ k, k < 20 → hI h (a + 7) k = nI (aT A k)) ∧ (∀ k, k < 4 * aC A 3 → hI h (a + 8) k = nI (aR A k)) ∧ (∀ k, k < aC A 4 → hI h (a + 9) k = nI (aG A k)) ∧ ∀ k, k < aC A 5 → hI h (a + 10) k = nI (aW A k)
theorem nI_ix {k n : Nat} (h : k < n) (hn : n ≤ 100000) : inb (nI k) n := nI_in h (by omega)
theorem ix_nI {k : Nat} (h : k < 2 ^ 31) : ix (nI k) = k := nI_clamp h
/-- has, of both sides -/
def yes (c : Prop) [Decidable c] : Int32 := if c then 1 else 0
theorem c_has {N : Nat} {h : PH} {a : Nat} {A : AV} (hV : VL h a) (hC : CV h a A) (hW : WV A) {k : Nat} (hk : k < 5) (v : Int32) : f_X6_has N a (nI k) v h = some (yes (¬ v < 0 ∧ ¬ nI (aC A k) ≤ v), h) := by
  unfold f_X6_has yes
  by_cases c : v < 0
  · rw [if_pos c, if_neg (fun q => q.1 c)]
  · rw [if_neg c, ck_p hV.1, hV.2.1.1, rq_s, ck_p hV.2.2.1.1.1, hV.2.2.1.1.2, ck_p (nI_ix hk (by omega)), ix_nI (by omega), hC.1 k hk]
    by_cases c2 : nI (aC A k) ≤ v
    · rw [if_pos c2, if_neg (fun q => q.2 c2)]
    · rw [if_neg c2, if_pos ⟨c, c2⟩]
theorem nI_z {n : Nat} (h : ¬ 0 < n) : nI n ≤ 0 := by rw [show n = 0 by omega]; decide
theorem ite_i {α : Type} {p q : Prop} [Decidable p] [Decidable q] (h : p ↔ q) {a b : α} : (if p then a else b) = if q then a else b := by
  by_cases hp : p
  · rw [if_pos hp, if_pos (h.mp hp)]
  · rw [if_neg hp, if_neg (fun k => hp (h.mpr k))]
/-- the set of those below n for which p holds, as bits -/
def bts (p : Nat → Bool) : Nat → Nat
  | 0 => 0
  | n + 1 => if p n then bts p n + 2 ^ n else bts p n
theorem bts_lt (p : Nat → Bool) : ∀ n, bts p n < 2 ^ n
  | 0 => by simp [bts]
  | n + 1 => by
    have := bts_lt p n
    unfold bts
    split <;> (rw [Nat.pow_succ]; omega)
theorem bts_or (p : Nat → Bool) {n : Nat} (h : n < 31) : (nI (bts p n) ||| ((1 : Int32) <<< (nI n &&& 31))) = nI (bts p n + 2 ^ n) := by
  have e : ((1 : Int32) <<< (nI n &&& 31)) = nI (2 ^ n * 1) := by
    have : ∀ k, k < 31 → ((1 : Int32) <<< (nI k &&& 31)) = nI (2 ^ k * 1) := by decide +kernel
    exact this n h
  rw [e, Int32.or_comm, fa_or_sum 1 (bts_lt p n), Nat.mul_one, Nat.add_comm]
theorem bts_cong {p q : Nat → Bool} : ∀ {n : Nat}, (∀ k, k < n → p k = q k) → bts p n = bts q n
  | 0, _ => rfl
  | n + 1, h => by
    unfold bts
    rw [h n (Nat.lt_succ_self n), bts_cong (fun k hk => h k (Nat.lt_succ_of_lt hk))]
def aHs (A : AV) (f : Nat) : Nat := bts (fun i => decide (aF A i = f)) (aC A 2)
theorem c_hs {N : Nat} {h : PH} {a : Nat} {A : AV} (hV : VL h a) (hC : CV h a A) (hW : WV A) {f : Nat} (hf : f < 1000) : ∀ (n i : Nat), aC A 2 < n + i → i ≤ aC A 2 → f_X6_housesAt_4 N n a (nI f) (nI (bts (fun i => decide (aF A i = f)) i)) (nI i) h = some (nI (aHs A f), h)
  | 0, i, h1, h2 => by omega
  | n + 1, i, h1, h2 => by
    have hc := hW.1.2.2.1
    have hh : ∀ i, i < aC A 2 → aF A i < 3 := fun i hi => Nat.lt_of_lt_of_le (hW.2.2.1 i hi) hW.1.2.1
    show f_X6_housesAt_4_b N (f_X6_housesAt_4 N n) a _ _ _ h = _
    unfold f_X6_housesAt_4_b
    rw [ck_p hV.1, hV.2.1.1, rq_s, ck_p hV.2.2.1.1.1, hV.2.2.1.1.2, ck_p (by decide), hC.1 2 (by decide), ite_i (nI_leI (by omega) (by omega))]
    by_cases c : aC A 2 ≤ i
    · rw [if_pos c, show i = aC A 2 by omega]; rfl
    · rw [if_neg c, hV.2.1.2.2.2.2.2.1, rq_s, ck_p hV.2.2.1.2.2.2.2.2.1.1, hV.2.2.1.2.2.2.2.2.1.2, ck_p (nI_ix (by omega) (by omega)), ix_nI (by omega), hC.2.2.2.1 i (by omega)]
      have hi3 := hh i (by omega)
      rw [ite_i (nI_eq (by omega) (by omega))]
      have ih := c_hs (N := N) hV hC hW hf n (i + 1) (by omega) (by omega)
      unfold f_X6_housesAt_30
      rw [bd_e, bd_e, nI_1, bts_or _ (by omega)]
      unfold bts at ih
      by_cases e : aF A i = f
      · rw [if_pos e]
        rw [if_pos (by simpa using e)] at ih
        exact ih
      · rw [if_neg e]
        rw [if_neg (by simpa using e)] at ih
        exact ih
theorem c_housesAt {N : Nat} (hN : 100 ≤ N) {h : PH} {a : Nat} {A : AV} (hV : VL h a) (hC : CV h a A) (hW : WV A) {f : Nat} (hf : f < 1000) : f_X6_housesAt N a (nI f) h = some (nI (aHs A f), h) := c_hs hV hC hW hf N 0 (by have := hW.1.2.2.1; omega) (by omega)
