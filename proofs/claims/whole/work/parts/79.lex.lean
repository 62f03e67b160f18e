/-! The language: words by their letters, the kept words, the tokens of a text. -/
def u27 (c : Nat) : Nat := t27 8 c
theorem t27_z : ∀ n, t27 n 0 = 0
  | 0 => rfl
  | n + 1 => by
    show 27 * t27 n (0 / 32) + 0 % 32 = 0
    rw [Nat.zero_div, t27_z n]
theorem t27_up {m : Nat} : ∀ n c, W3 n c → t27 (n + m) c = t27 n c
  | 0, c, h => by
    have e : c = 0 := h
    rw [e, Nat.zero_add, t27_z]
    rfl
  | n + 1, c, h => by
    rw [show n + 1 + m = (n + m) + 1 by omega]
    show 27 * t27 (n + m) (c / 32) + c % 32 = 27 * t27 n (c / 32) + c % 32
    rw [t27_up n (c / 32) h.2.2]
theorem W3_inj : ∀ n m c d, W3 n c → W3 m d → t27 n c = t27 m d → c = d
  | 0, 0, c, d, hc, hd, _ => by
    have e1 : c = 0 := hc
    have e2 : d = 0 := hd
    omega
  | 0, m + 1, c, d, hc, hd, e => by
    have e : 0 = 27 * t27 m (d / 32) + d % 32 := e
    have := hd.1
    omega
  | n + 1, 0, c, d, hc, hd, e => by
    have e : 27 * t27 n (c / 32) + c % 32 = 0 := e
    have := hc.1
    omega
  | n + 1, m + 1, c, d, hc, hd, e => by
    have e : 27 * t27 n (c / 32) + c % 32 = 27 * t27 m (d / 32) + d % 32 := e
    have a1 := hc.1
    have a2 := hc.2.1
    have b1 := hd.1
    have b2 := hd.2.1
    have ih := W3_inj n m (c / 32) (d / 32) hc.2.2 hd.2.2 (by omega)
    omega
theorem W3_lt : ∀ n c, W3 n c → c < 32 ^ n
  | 0, c, h => by
    have e : c = 0 := h
    rw [e]; decide
  | n + 1, c, h => by
    have ih := W3_lt n (c / 32) h.2.2
    rw [Nat.pow_succ]
    omega
theorem t27_lt : ∀ n c, W3 n c → t27 n c < 28 ^ n
  | 0, c, h => by
    show 0 < 1
    decide
  | n + 1, c, h => by
    have ih := t27_lt n (c / 32) h.2.2
    have := h.2.1
    show 27 * t27 n (c / 32) + c % 32 < 28 ^ (n + 1)
    rw [Nat.pow_succ]
    omega
/-- the code of a word -/
def Wrd (c : Nat) : Prop := ∃ n, 1 ≤ n ∧ n ≤ 8 ∧ W3 n c
theorem Wrd.u {c n : Nat} (h : W3 n c) (hn : n ≤ 8) : u27 c = t27 n c := by
  unfold u27
  rw [show 8 = n + (8 - n) by omega]
  exact t27_up n c h
theorem Wrd.inj {c d : Nat} (hc : Wrd c) (hd : Wrd d) : u27 c = u27 d ↔ c = d := by
  obtain ⟨n, n1, n2, n3⟩ := hc
  obtain ⟨m, m1, m2, m3⟩ := hd
  rw [Wrd.u n3 n2, Wrd.u m3 m2]
  exact ⟨fun e => W3_inj n m c d n3 m3 e, fun e => by
    subst e
    rw [← Wrd.u n3 n2, ← Wrd.u m3 m2]⟩
theorem Wrd.lt {c : Nat} (h : Wrd c) : c < 2 ^ 62 := by
  obtain ⟨n, n1, n2, n3⟩ := h
  have a := W3_lt n c n3
  have b : 32 ^ n ≤ 32 ^ 8 := Nat.pow_le_pow_right (by decide) n2
  have e : 32 ^ 8 < 2 ^ 62 := by decide
  omega
theorem Wrd.ult {c : Nat} (h : Wrd c) : u27 c < 2 ^ 62 := by
  obtain ⟨n, n1, n2, n3⟩ := h
  have a := t27_lt n c n3
  rw [Wrd.u n3 n2]
  have b : 28 ^ n ≤ 28 ^ 8 := Nat.pow_le_pow_right (by decide) n2
  have e : 28 ^ 8 < 2 ^ 62 := by decide
  omega
def w3b : Nat → Nat → Bool
  | 0, c => decide (c = 0)
  | n + 1, c => decide (1 ≤ c % 32) && decide (c % 32 ≤ 26) && w3b n (c / 32)
theorem w3b_W : ∀ n c, w3b n c = true → W3 n c
  | 0, c, h => by
    have h : decide (c = 0) = true := h
    show c = 0
    exact of_decide_eq_true h
  | n + 1, c, h => by
    have h : (decide (1 ≤ c % 32) && decide (c % 32 ≤ 26) && w3b n (c / 32)) = true := h
    rw [Bool.and_eq_true, Bool.and_eq_true, decide_eq_true_eq, decide_eq_true_eq] at h
    exact ⟨h.1.1, h.1.2, w3b_W n _ h.2⟩
/-- the words of the language, by their codes; how many letters they have -/
def kws : List Nat := [218284, 132683, 20681908, 2804179, 209573, 8902245, 52, 20593771, 632046, 655, 24750694578, 627891, 81544, 24426643, 7657651, 20430483, 87630, 398788, 278194, 14836, 1476, 498, 20186245, 20026836, 763332, 398548, 20354452]
def kls : List Nat := [4, 4, 5, 5, 4, 5, 2, 5, 4, 2, 7, 4, 4, 5, 5, 5, 4, 4, 4, 3, 3, 2, 5, 5, 4, 4, 5]
def k32 (i : Nat) : Nat := kws.getD i 0
def k27 (i : Nat) : Nat := u27 (k32 i)
theorem k32_code : ∀ i, i < 27 → wcode i = lN (k32 i) := by decide +kernel
theorem k32_w3 : ∀ i, i < 27 → w3b (kls.getD i 0) (k32 i) = true ∧ 1 ≤ kls.getD i 0 ∧ kls.getD i 0 ≤ 8 := by decide +kernel
theorem k32_inj : ∀ i, i < 27 → ∀ j, j < 27 → k32 i = k32 j → i = j := by decide +kernel
theorem k32_W {i : Nat} (hi : i < 27) : Wrd (k32 i) := ⟨_, (k32_w3 i hi).2.1, (k32_w3 i hi).2.2, w3b_W _ _ (k32_w3 i hi).1⟩
theorem wkept_lt : ∀ i, i < 27 → (wkept i = 0 ↔ 22 ≤ i) := by decide +kernel
/-- which of the words it is; 27: none -/
def kf (c : Nat) : Nat → Nat → Nat
  | 0, i => i
  | n + 1, i => if k32 i = c then i else kf c n (i + 1)
def kid (c : Nat) : Nat := kf c 27 0
theorem kf_spec {c : Nat} : ∀ n i, i + n = 27 → kf c n i ≤ 27 ∧ (kf c n i < 27 → k32 (kf c n i) = c) ∧ ∀ j, i ≤ j → j < kf c n i → k32 j ≠ c
  | 0, i, h => ⟨by show i ≤ 27; omega, fun z => by
    have z : i < 27 := z
    omega, fun j h1 h2 => by
    have h2 : j < i := h2
    omega⟩
  | n + 1, i, h => by
    unfold kf
    by_cases e : k32 i = c
    · rw [if_pos e]
      exact ⟨by omega, fun _ => e, fun j h1 h2 => by omega⟩
    · rw [if_neg e]
      obtain ⟨a, b, d⟩ := kf_spec (c := c) n (i + 1) (by omega)
      exact ⟨a, b, fun j h1 h2 => by
        by_cases q : j = i
        · rw [q]; exact e
        · exact d j (by omega) h2⟩
theorem kid_le (c : Nat) : kid c ≤ 27 := (kf_spec 27 0 rfl).1
theorem kid_at {c : Nat} (h : kid c < 27) : k32 (kid c) = c := (kf_spec 27 0 rfl).2.1 h
theorem kid_no {c j : Nat} (h : j < kid c) : k32 j ≠ c := (kf_spec 27 0 rfl).2.2 j (Nat.zero_le _) h
theorem kid_iff {c i : Nat} (hi : i < 27) : kid c = i ↔ c = k32 i := by
  constructor
  · intro e
    rw [← e, kid_at (by omega)]
  · intro e
    have l := kid_le c
    by_cases q : kid c < 27
    · exact k32_inj _ q _ hi ((kid_at q).trans e)
    · exact absurd e.symm (kid_no (by omega))
/-- a word is this one of the language, by its other code -/
theorem kid_u {c i : Nat} (hc : Wrd c) (hi : i < 27) : lN (u27 c) = lN (k27 i) ↔ kid c = i := by
  rw [fb_lN_inj (by have := hc.ult; omega) (by have := (k32_W hi).ult; unfold k27; omega), kid_iff hi]
  exact Wrd.inj hc (k32_W hi)
/-! The text. -/
abbrev TX : Type := Nat × (Nat → Nat)
def isL (s : Nat) : Bool := decide (97 ≤ s ∧ s ≤ 122)
def isD (s : Nat) : Bool := decide (48 ≤ s ∧ s ≤ 57)
def isB (s : Nat) : Bool := decide (s = 32 ∨ s = 10)
def isG (s : Nat) : Bool := decide ((40 ≤ s ∧ s ≤ 43) ∨ s = 45 ∨ (59 ≤ s ∧ s ≤ 61))
def xrn (q : Nat → Bool) : Nat → Nat → Nat
  | 0, p => p
  | n + 1, p => if q p = true then xrn q n (p + 1) else p
def xin (X : TX) (c : Nat → Bool) (p : Nat) : Bool := decide (p < X.1) && c (X.2 p)
def xrun (X : TX) (c : Nat → Bool) (p : Nat) : Nat := xrn (xin X c) (X.1 - p) p
/-- where a token begins behind p, of what kind it is (0 the end, 1 a word, 2 a number, 3 a sign, 4 none), where it ends -/
def xbg (X : TX) (p : Nat) : Nat := xrun X isB p
def xty (X : TX) (p : Nat) : Nat := if X.1 ≤ xbg X p then 0 else if isL (X.2 (xbg X p)) = true then (if xrun X isL (xbg X p) - xbg X p ≤ 8 then 1 else 4) else if isD (X.2 (xbg X p)) = true then (if xrun X isD (xbg X p) - xbg X p ≤ 4 then 2 else 4) else if isG (X.2 (xbg X p)) = true then 3 else 4
def xnx (X : TX) (p : Nat) : Nat := if X.1 ≤ xbg X p then xbg X p else if isL (X.2 (xbg X p)) = true then xrun X isL (xbg X p) else if isD (X.2 (xbg X p)) = true then xrun X isD (xbg X p) else xbg X p + 1
def xtW (r : Nat → Nat) (b : Nat) : Nat → Nat
  | 0 => 0
  | n + 1 => xtW r b n * 32 + (r (b + n) - 96)
def xdW (r : Nat → Nat) (b : Nat) : Nat → Nat
  | 0 => 0
  | n + 1 => xdW r b n * 10 + (r (b + n) - 48)
/-- a word's code, a number, a sign -/
def xwv (X : TX) (p : Nat) : Nat := xtW X.2 (xbg X p) (xnx X p - xbg X p)
def xnv (X : TX) (p : Nat) : Nat := xdW X.2 (xbg X p) (xnx X p - xbg X p)
def xgn (X : TX) (p : Nat) : Nat := X.2 (xbg X p)
/-- what a text keeps to -/
def TXok (X : TX) : Prop := X.1 ≤ 1000 ∧ ∀ k, k < X.1 → X.2 k = 10 ∨ (32 ≤ X.2 k ∧ X.2 k ≤ 126)
section LEX
variable {X : TX} {c : Nat → Bool} {p : Nat}
theorem xrun_out (h : ¬ xin X c p = true) : xrun X c p = p := by
  unfold xrun
  cases e : X.1 - p with
  | zero => rfl
  | succ n =>
    unfold xrn
    rw [if_neg h]
theorem xrun_in (h : xin X c p = true) : xrun X c p = xrun X c (p + 1) := by
  unfold xrun
  have : p < X.1 := by
    unfold xin at h
    rw [Bool.and_eq_true, decide_eq_true_eq] at h
    exact h.1
  rw [show X.1 - p = (X.1 - (p + 1)) + 1 by omega]
  show (if xin X c p = true then _ else _) = _
  rw [if_pos h]
theorem xin_iff : xin X c p = true ↔ (p < X.1 ∧ c (X.2 p) = true) := by
  unfold xin
  rw [Bool.and_eq_true, decide_eq_true_eq]
theorem xrn_ge {q : Nat → Bool} : ∀ n p, p ≤ xrn q n p ∧ xrn q n p ≤ p + n
  | 0, p => ⟨Nat.le_refl _, Nat.le_refl _⟩
  | n + 1, p => by
    have := xrn_ge (q := q) n (p + 1)
    unfold xrn
    split <;> omega
theorem xrun_ge : p ≤ xrun X c p := (xrn_ge _ _).1
theorem xrun_le (h : p ≤ X.1) : xrun X c p ≤ X.1 := by
  have := (xrn_ge (q := xin X c) (X.1 - p) p).2
  unfold xrun
  omega
theorem xrun_gt (h : xin X c p = true) : p < xrun X c p := by
  rw [xrun_in h]
  exact xrun_ge
theorem xbg_ge : p ≤ xbg X p := xrun_ge
theorem xbg_le (h : p ≤ X.1) : xbg X p ≤ X.1 := xrun_le h
theorem xnx_le (h : p ≤ X.1) : xnx X p ≤ X.1 := by
  have hb := xbg_le h
  unfold xnx
  split
  · exact hb
  · split
    · exact xrun_le hb
    · split
      · exact xrun_le hb
      · omega
theorem xnx_ge : xbg X p ≤ xnx X p := by
  unfold xnx
  split
  · exact Nat.le_refl _
  · split
    · exact xrun_ge
    · split
      · exact xrun_ge
      · omega
theorem xnx_gt (h : xty X p ≠ 0) : xbg X p < xnx X p ∧ xbg X p < X.1 := by
  unfold xty at h
  by_cases e : X.1 ≤ xbg X p
  · rw [if_pos e] at h
    exact absurd rfl h
  · refine ⟨?_, by omega⟩
    unfold xnx
    rw [if_neg e]
    split
    · rename_i q
      exact xrun_gt (xin_iff.mpr ⟨by omega, q⟩)
    · split
      · rename_i q
        exact xrun_gt (xin_iff.mpr ⟨by omega, q⟩)
      · omega
theorem xnx_gt' (h : xty X p ≠ 0) : p < xnx X p := by
  have := xnx_gt h
  have := xbg_ge (X := X) (p := p)
  omega
theorem xty_le : xty X p ≤ 4 := by
  unfold xty
  repeat' split
  all_goals omega
theorem xrn_all {q : Nat → Bool} : ∀ n p k, p ≤ k → k < xrn q n p → q k = true
  | 0, p, k, h1, h2 => by
    have h2 : k < p := h2
    omega
  | n + 1, p, k, h1, h2 => by
    unfold xrn at h2
    by_cases e : q p = true
    · rw [if_pos e] at h2
      by_cases z : k = p
      · rw [z]; exact e
      · exact xrn_all n (p + 1) k (by omega) h2
    · rw [if_neg e] at h2
      omega
theorem xrun_all {k : Nat} (h1 : p ≤ k) (h2 : k < xrun X c p) : c (X.2 k) = true := (xin_iff.mp (xrn_all _ _ k h1 h2)).2
/-- the letters of a xrun make a word's code -/
theorem xtW_W {r : Nat → Nat} {b : Nat} : ∀ n, (∀ k, k < n → 97 ≤ r (b + k) ∧ r (b + k) ≤ 122) → W3 n (xtW r b n)
  | 0, _ => rfl
  | n + 1, h => by
    have ih := xtW_W n (fun k hk => h k (by omega))
    have q := h n (by omega)
    have e1 : (xtW r b n * 32 + (r (b + n) - 96)) % 32 = r (b + n) - 96 := by omega
    have e2 : (xtW r b n * 32 + (r (b + n) - 96)) / 32 = xtW r b n := by omega
    show 1 ≤ (xtW r b n * 32 + (r (b + n) - 96)) % 32 ∧ (xtW r b n * 32 + (r (b + n) - 96)) % 32 ≤ 26 ∧ W3 n ((xtW r b n * 32 + (r (b + n) - 96)) / 32)
    rw [e1, e2]
    exact ⟨by omega, by omega, ih⟩
theorem t27_s {r : Nat → Nat} {b n : Nat} (h : 97 ≤ r (b + n) ∧ r (b + n) ≤ 122) : t27 (n + 1) (xtW r b (n + 1)) = 27 * t27 n (xtW r b n) + (r (b + n) - 96) := by
  show 27 * t27 n ((xtW r b n * 32 + (r (b + n) - 96)) / 32) + (xtW r b n * 32 + (r (b + n) - 96)) % 32 = _
  rw [show (xtW r b n * 32 + (r (b + n) - 96)) / 32 = xtW r b n by omega, show (xtW r b n * 32 + (r (b + n) - 96)) % 32 = r (b + n) - 96 by omega]
theorem xdW_lt {r : Nat → Nat} {b : Nat} : ∀ n, (∀ k, k < n → 48 ≤ r (b + k) ∧ r (b + k) ≤ 57) → xdW r b n < 10 ^ n
  | 0, _ => by
    show 0 < 1
    decide
  | n + 1, h => by
    have ih := xdW_lt n (fun k hk => h k (by omega))
    have q := h n (by omega)
    show xdW r b n * 10 + (r (b + n) - 48) < 10 ^ (n + 1)
    rw [Nat.pow_succ]
    omega
/-- a word's token -/
theorem xty_1 (h : xty X p = 1) : xbg X p < X.1 ∧ isL (X.2 (xbg X p)) = true ∧ xnx X p = xrun X isL (xbg X p) ∧ 1 ≤ xnx X p - xbg X p ∧ xnx X p - xbg X p ≤ 8 := by
  have g := xnx_gt (X := X) (p := p) (by omega)
  unfold xty at h
  rw [if_neg (by omega)] at h
  by_cases e : isL (X.2 (xbg X p)) = true
  · rw [if_pos e] at h
    have en : xnx X p = xrun X isL (xbg X p) := by
      unfold xnx
      rw [if_neg (by omega), if_pos e]
    refine ⟨g.2, e, en, by omega, ?_⟩
    rw [en]
    by_cases q : xrun X isL (xbg X p) - xbg X p ≤ 8
    · exact q
    · rw [if_neg q] at h; omega
  · rw [if_neg e] at h
    split at h
    · split at h <;> omega
    · split at h <;> omega
theorem isL_iff {s : Nat} : isL s = true ↔ (97 ≤ s ∧ s ≤ 122) := by unfold isL; rw [decide_eq_true_eq]
theorem isD_iff {s : Nat} : isD s = true ↔ (48 ≤ s ∧ s ≤ 57) := by unfold isD; rw [decide_eq_true_eq]
theorem isB_iff {s : Nat} : isB s = true ↔ (s = 32 ∨ s = 10) := by unfold isB; rw [decide_eq_true_eq]
theorem isG_iff {s : Nat} : isG s = true ↔ ((40 ≤ s ∧ s ≤ 43) ∨ s = 45 ∨ (59 ≤ s ∧ s ≤ 61)) := by unfold isG; rw [decide_eq_true_eq]
theorem xwv_W (h : xty X p = 1) : Wrd (xwv X p) := by
  obtain ⟨h1, h2, h3, h4, h5⟩ := xty_1 h
  refine ⟨_, h4, h5, xtW_W _ (fun k hk => ?_)⟩
  rw [h3] at hk
  exact isL_iff.mp (xrun_all (X := X) (c := isL) (p := xbg X p) (by omega) (by omega))
theorem xty_2 (h : xty X p = 2) : xbg X p < X.1 ∧ isD (X.2 (xbg X p)) = true ∧ xnx X p = xrun X isD (xbg X p) ∧ xnx X p - xbg X p ≤ 4 := by
  have g := xnx_gt (X := X) (p := p) (by omega)
  unfold xty at h
  rw [if_neg (by omega)] at h
  by_cases e : isL (X.2 (xbg X p)) = true
  · rw [if_pos e] at h
    split at h <;> omega
  · rw [if_neg e] at h
    by_cases e2 : isD (X.2 (xbg X p)) = true
    · rw [if_pos e2] at h
      have en : xnx X p = xrun X isD (xbg X p) := by
        unfold xnx
        rw [if_neg (by omega), if_neg e, if_pos e2]
      refine ⟨g.2, e2, en, ?_⟩
      rw [en]
      by_cases q : xrun X isD (xbg X p) - xbg X p ≤ 4
      · exact q
      · rw [if_neg q] at h; omega
    · rw [if_neg e2] at h
      split at h <;> omega
theorem xnv_lt (h : xty X p = 2) : xnv X p < 10000 := by
  obtain ⟨h1, h2, h3, h4⟩ := xty_2 h
  have := xdW_lt (r := X.2) (b := xbg X p) (xnx X p - xbg X p) (fun k hk => by
    rw [h3] at hk
    exact isD_iff.mp (xrun_all (X := X) (c := isD) (p := xbg X p) (by omega) (by omega)))
  have b : 10 ^ (xnx X p - xbg X p) ≤ 10 ^ 4 := Nat.pow_le_pow_right (by decide) h4
  unfold xnv
  omega
theorem xty_3 (h : xty X p = 3) : xbg X p < X.1 ∧ isG (xgn X p) = true ∧ xnx X p = xbg X p + 1 := by
  have g := xnx_gt (X := X) (p := p) (by omega)
  unfold xty at h
  rw [if_neg (by omega)] at h
  by_cases e : isL (X.2 (xbg X p)) = true
  · rw [if_pos e] at h
    split at h <;> omega
  · rw [if_neg e] at h
    by_cases e2 : isD (X.2 (xbg X p)) = true
    · rw [if_pos e2] at h
      split at h <;> omega
    · rw [if_neg e2] at h
      by_cases e3 : isG (X.2 (xbg X p)) = true
      · refine ⟨g.2, e3, ?_⟩
        unfold xnx
        rw [if_neg (by omega), if_neg e, if_neg e2]
      · rw [if_neg e3] at h; omega
end LEX
