/-! Names: both sides. -/
def mk5 (k : Nat) : Nat := if k = 0 then 5 else if k = 1 then 3 else if k = 2 then 4 else if k = 3 then 6 else 4
def NmC (h : PH) (w : Nat) (cnt : Nat → Nat) (nm : Nat → Nat → Nat) : Prop := VL h w ∧ ∀ k, k < 5 → cnt k ≤ mk5 k ∧ hI h (w + 1) k = nI (cnt k) ∧ ∀ i, i < cnt k → Wrd (nm k i) ∧ hJ h (w + 2) (6 * k + i) = lN (nm k i)
def NmM (h : PH) (y r : Nat) (cnt : Nat → Nat) (nm : Nat → Nat → Nat) : Prop := MD h y ∧ ∀ k, k < 5 → cnt k ≤ mk5 k ∧ hI h (y + 2) (6 * r + k) = nI (cnt k) ∧ ∀ i, i < cnt k → Wrd (nm k i) ∧ hJ h (y + 3) (22 * r + (fN k + i)) = lN (u27 (nm k i))
/-- the first of a kind that is named so; their number, if none is -/
def nfd (nm : Nat → Nat → Nat) (k c : Nat) : Nat → Nat → Nat
  | 0, i => i
  | n + 1, i => if nm k i = c then i else nfd nm k c n (i + 1)
def nfi (cnt : Nat → Nat) (nm : Nat → Nat → Nat) (k c : Nat) : Nat := nfd nm k c (cnt k) 0
def nfR (cnt : Nat → Nat) (nm : Nat → Nat → Nat) (k c : Nat) : Int32 := if nfi cnt nm k c < cnt k then nI (nfi cnt nm k c) else -1
def nkf (cnt : Nat → Nat) (nm : Nat → Nat → Nat) (c : Nat) : Nat → Nat → Bool
  | 0, _ => false
  | n + 1, k => if nfi cnt nm k c < cnt k then true else nkf cnt nm c n (k + 1)
/-- whether any is named so -/
def nkn (cnt : Nat → Nat) (nm : Nat → Nat → Nat) (c : Nat) : Bool := nkf cnt nm c 5 0
/-- a new name; one that is told -/
def xNew (X : TX) (cnt : Nat → Nat) (nm : Nat → Nat → Nat) (s : ZS) : ZS := stp X (if sNm X s = true then (if nkn cnt nm (xwv X s.2) = true then flt X 3 s else s) else flt X 1 s)
def xTld (X : TX) (cnt : Nat → Nat) (nm : Nat → Nat → Nat) (k : Nat) (s : ZS) : ZS := if sNm X s = true then (if nfi cnt nm k (xwv X s.2) < cnt k then s else flt X 2 s) else flt X 1 s
section NMS
variable {N x y w r p : Nat} {X : TX} {cnt : Nat → Nat} {nm : Nat → Nat → Nat} {s : ZS} {h : PH}
theorem mk5_le (k : Nat) : mk5 k ≤ 6 := by
  unfold mk5
  repeat' split
  all_goals omega
theorem nfd_le {k c : Nat} : ∀ n i, nfd nm k c n i ≤ i + n
  | 0, i => Nat.le_refl _
  | n + 1, i => by
    have := nfd_le (k := k) (c := c) n (i + 1)
    unfold nfd
    split <;> omega
theorem nfi_le {k c : Nat} : nfi cnt nm k c ≤ cnt k := by
  have := nfd_le (nm := nm) (k := k) (c := c) (cnt k) 0
  unfold nfi
  omega
theorem z_fd {k c : Nat} (hk : k < 5) (hc : Wrd c) (q : NmC h w cnt nm) : ∀ (n i d : Nat), d < n → i + d = cnt k → f_X6_find_3 N n w (nI k) (lN c) (nI i) h = some (if nfd nm k c d i < cnt k then nI (nfd nm k c d i) else -1, h)
  | 0, i, d, h1, h2 => by omega
  | n + 1, i, d, h1, h2 => by
    obtain ⟨hV, qk⟩ := q
    obtain ⟨k1, k2, k3⟩ := qk k hk
    have m6 := mk5_le k
    show f_X6_find_3_b N (f_X6_find_3 N n) w _ _ _ h = _
    unfold f_X6_find_3_b
    rw [ck_p hV.1, vR_many hV, rq_s, ck_p (vK_many hV), vN_many hV, ck_p (nI_ix hk (by decide)), ix_nI (by omega), k2, ite_i (nI_leI (by omega) (by omega))]
    match d, h1, h2 with
    | 0, h1, h2 =>
      rw [if_pos (by omega), if_neg (show ¬ nfd nm k c 0 i < cnt k by show ¬ i < cnt k; omega)]
    | d + 1, h1, h2 =>
      obtain ⟨w1, w2⟩ := k3 i (by omega)
      have e6 : nI k * (6 : Int32) + nI i = nI (6 * k + i) := by rw [show (6 : Int32) = nI 6 from rfl, pk_mul, nI_add, Nat.mul_comm]
      have ec : lg_cmp (lN (nm k i)) (lN c) = 0 ↔ nm k i = c := by rw [lg_cmp_eq, fb_lN_inj (by have := w1.lt; omega) (by have := hc.lt; omega)]
      rw [if_neg (by omega), vR_names hV, rq_s, ck_p (vK_names hV), vN_names hV, e6, ck_p (nI_ix (by omega) (by decide)), ix_nI (by omega), w2, ite_i ec]
      unfold nfd
      by_cases e : nm k i = c
      · rw [if_pos e, if_pos e, if_pos (by omega)]
      · rw [if_neg e, if_neg e, bd_e, nI_1]
        exact z_fd hk hc ⟨hV, qk⟩ n (i + 1) d (by omega) (by omega)
theorem z_find (hN : 100 ≤ N) {k c : Nat} (hk : k < 5) (hc : Wrd c) (q : NmC h w cnt nm) : f_X6_find N w (nI k) (lN c) h = some (nfR cnt nm k c, h) := by
  have m6 := mk5_le k
  have l := (q.2 k hk).1
  exact z_fd hk hc q N 0 (cnt k) (by omega) (by omega)
theorem z_kf {c : Nat} (hN : 100 ≤ N) (hc : Wrd c) (q : NmC h w cnt nm) : ∀ (n k d : Nat), d < n → k + d = 5 → f_X6_knows_2 N n w (lN c) (nI k) h = some (yb (nkf cnt nm c d k), h)
  | 0, k, d, h1, h2 => by omega
  | n + 1, k, d, h1, h2 => by
    show f_X6_knows_2_b N (f_X6_knows_2 N n) w _ _ h = _
    unfold f_X6_knows_2_b
    rw [ite_i (show (5 : Int32) ≤ nI k ↔ 5 ≤ k from nI_leI (a := 5) (by decide) (by omega))]
    match d, h1, h2 with
    | 0, h1, h2 =>
      rw [if_pos (by omega)]
      rfl
    | d + 1, h1, h2 =>
      have l := nfi_le (cnt := cnt) (nm := nm) (k := k) (c := c)
      have lc := (q.2 k (by omega)).1
      have m6 := mk5_le k
      have er : nfR cnt nm k c = -1 ↔ ¬ nfi cnt nm k c < cnt k := by
        unfold nfR
        by_cases e : nfi cnt nm k c < cnt k
        · rw [if_pos e]
          exact ⟨fun z => absurd z (ni1 (by omega)), fun z => absurd e z⟩
        · rw [if_neg e]
          exact ⟨fun _ => e, fun _ => rfl⟩
      rw [if_neg (by omega), ck_p q.1.1, z_find hN (by omega) hc q, cl_s, ite_i er]
      unfold nkf
      by_cases e : nfi cnt nm k c < cnt k
      · rw [if_neg (fun z => z e), if_pos e]
        rfl
      · rw [if_pos e, if_neg e, bd_e, nI_1]
        exact z_kf hN hc q n (k + 1) d (by omega) (by omega)
theorem z_knows (hN : 100 ≤ N) {c : Nat} (hc : Wrd c) (q : NmC h w cnt nm) : f_X6_knows N w (lN c) h = some (yb (nkn cnt nm c), h) := z_kf hN hc q N 0 5 (by omega) rfl
/-! the reference's -/
theorem m_fN {k : Nat} (hk : k < 5) : f_X11_firstName N (nI k) h = some (nI (fN k), h) := by
  unfold f_X11_firstName fN
  rw [ite_i (show nI k = 0 ↔ k = 0 from nI_eq (b := 0) (by omega) (by decide)), ite_i (show nI k = (1 : Int32) ↔ k = 1 from nI_eq (b := 1) (by omega) (by decide)), ite_i (show nI k = (2 : Int32) ↔ k = 2 from nI_eq (b := 2) (by omega) (by decide)), ite_i (show nI k = (3 : Int32) ↔ k = 3 from nI_eq (b := 3) (by omega) (by decide))]
  repeat' split
  all_goals rfl
theorem fN_le (k : Nat) : fN k ≤ 18 := by
  unfold fN
  repeat' split
  all_goals omega
theorem fN_mk (k : Nat) : fN k + mk5 k ≤ 22 := by
  unfold fN mk5
  repeat' split
  all_goals omega
theorem m_nd {k c : Nat} (hr : r < 2) (hk : k < 5) (hc : Wrd c) (e7 : hJ h y 7 = lN (u27 c)) (q : NmM h y r cnt nm) : ∀ (n i d : Nat), d < n → i + d = cnt k → f_X11_named_13 N n y (nI r) (nI k) (nI (22 * r + fN k)) (nI i) h = some (if nfd nm k c d i < cnt k then nI (nfd nm k c d i) else -1, h)
  | 0, i, d, h1, h2 => by omega
  | n + 1, i, d, h1, h2 => by
    obtain ⟨m, qk⟩ := q
    obtain ⟨k1, k2, k3⟩ := qk k hk
    have m6 := mk5_le k
    have f18 := fN_le k
    have fm := fN_mk k
    have e6 : (6 : Int32) * nI r + nI k = nI (6 * r + k) := by rw [show (6 : Int32) = nI 6 from rfl, pk_mul, nI_add]
    show f_X11_named_13_b N (f_X11_named_13 N n) y _ _ _ _ h = _
    unfold f_X11_named_13_b
    rw [ck_p m.1, mR_valley m, rq_s, ck_p (mK_valley m), mN_valley m, e6, ck_p (nI_ix (by omega) (by decide)), ix_nI (by omega), k2, ite_i (nI_leI (by omega) (by omega))]
    match d, h1, h2 with
    | 0, h1, h2 =>
      rw [if_pos (by omega), if_neg (show ¬ nfd nm k c 0 i < cnt k by show ¬ i < cnt k; omega)]
    | d + 1, h1, h2 =>
      obtain ⟨w1, w2⟩ := k3 i (by omega)
      have ec : lg_cmp (lN (u27 (nm k i))) (lN (u27 c)) = 0 ↔ nm k i = c := by rw [lg_cmp_eq, fb_lN_inj (by have := w1.ult; omega) (by have := hc.ult; omega), Wrd.inj w1 hc]
      rw [if_neg (by omega), mR_names m, rq_s, ck_p (mK_names m), mN_names m, nI_add, Nat.add_assoc, ck_p (nI_ix (by omega) (by decide)), ix_nI (by omega), w2, e7, ite_i ec]
      unfold nfd
      by_cases e : nm k i = c
      · rw [if_pos e, if_pos e, if_pos (by omega)]
      · rw [if_neg e, if_neg e, bd_e, nI_1]
        exact m_nd hr hk hc e7 ⟨m, qk⟩ n (i + 1) d (by omega) (by omega)
theorem m_named (hN : 100 ≤ N) {k c : Nat} (hr : r < 2) (hk : k < 5) (hc : Wrd c) (e7 : hJ h y 7 = lN (u27 c)) (q : NmM h y r cnt nm) : f_X11_named N y (nI r) (nI k) h = some (nfR cnt nm k c, h) := by
  have m6 := mk5_le k
  have l := (q.2 k hk).1
  unfold f_X11_named
  rw [m_fN hk, cl_s, show (22 : Int32) = nI 22 from rfl, pk_mul, nI_add, bd_e]
  exact m_nd hr hk hc e7 q N 0 (cnt k) (by omega) (by omega)
theorem kL0 : (133554 : Int64) = lN (k27 0) := by decide +kernel
theorem kL1 : (79958 : Int64) = lN (k27 1) := by decide +kernel
theorem kL2 : (10553888 : Int64) = lN (k27 2) := by decide +kernel
theorem kL3 : (1489744 : Int64) = lN (k27 3) := by decide +kernel
theorem kL4 : (127418 : Int64) = lN (k27 4) := by decide +kernel
theorem kL5 : (4562600 : Int64) = lN (k27 5) := by decide +kernel
theorem kL6 : (47 : Int64) = lN (k27 6) := by decide +kernel
theorem kL7 : (10502066 : Int64) = lN (k27 7) := by decide +kernel
theorem kL8 : (380741 : Int64) = lN (k27 8) := by decide +kernel
theorem kL9 : (555 : Int64) = lN (k27 9) := by decide +kernel
theorem kL10 : (8935714008 : Int64) = lN (k27 10) := by decide +kernel
theorem kL11 : (377776 : Int64) = lN (k27 11) := by decide +kernel
theorem kL12 : (50849 : Int64) = lN (k27 12) := by decide +kernel
theorem kL13 : (12410623 : Int64) = lN (k27 13) := by decide +kernel
theorem kL14 : (3913426 : Int64) = lN (k27 14) := by decide +kernel
theorem kL15 : (10404118 : Int64) = lN (k27 15) := by decide +kernel
theorem kL16 : (55175 : Int64) = lN (k27 16) := by decide +kernel
theorem kL17 : (240223 : Int64) = lN (k27 17) := by decide +kernel
theorem kL18 : (168984 : Int64) = lN (k27 18) := by decide +kernel
theorem kL19 : (10631 : Int64) = lN (k27 19) := by decide +kernel
theorem kL20 : (1111 : Int64) = lN (k27 20) := by decide +kernel
theorem kL21 : (423 : Int64) = lN (k27 21) := by decide +kernel
theorem kL22 : (10255685 : Int64) = lN (k27 22) := by decide +kernel
theorem kL23 : (10160471 : Int64) = lN (k27 23) := by decide +kernel
theorem kL24 : (459652 : Int64) = lN (k27 24) := by decide +kernel
theorem kL25 : (240023 : Int64) = lN (k27 25) := by decide +kernel
theorem kL26 : (10357247 : Int64) = lN (k27 26) := by decide +kernel
/-- a kept word: one of the first 22 -/
theorem m_isKept (z : RZ X y h p) : f_X11_isKept N y h = some (yb (!sNm X (0, p)), h) := by
  obtain ⟨rb, p1, p2, p3, p4, p5, p6⟩ := z
  have tl := xty_le (X := X) (p := p)
  unfold f_X11_isKept
  rw [ck_p rb.1.1, p4, ite_i (show nI (xty X p) = (1 : Int32) ↔ xty X p = 1 from nI_eq (b := 1) (by omega) (by decide))]
  by_cases c : xty X p = 1
  · have wd := xwv_W c
    have kl := kid_le (xwv X p)
    have key : ∀ i, i < 27 → ∀ l : Int64, l = lN (k27 i) → (lg_cmp (lN (u27 (xwv X p))) l = 0 ↔ kid (xwv X p) = i) := fun i hi l hl => by rw [hl]; exact (lg_cmp_eq _ _).trans (kid_u wd hi)
    rw [if_pos c, p5 c]
    have fin : ∀ b : Bool, b = true → (22 ≤ kid (xwv X p) → False) → some ((1 : Int32), h) = some (yb (!sNm X (0, p)), h) := fun b _ q => by
      rw [sF_of (fun e => q (sNm_i.mp e).2.2)]
      rfl
    have k0 := key 0 (by decide) _ kL0
    have k1 := key 1 (by decide) _ kL1
    have k2 := key 2 (by decide) _ kL2
    have k3 := key 3 (by decide) _ kL3
    have k4 := key 4 (by decide) _ kL4
    have k5 := key 5 (by decide) _ kL5
    have k6 := key 6 (by decide) _ kL6
    have k7 := key 7 (by decide) _ kL7
    have k8 := key 8 (by decide) _ kL8
    have k9 := key 9 (by decide) _ kL9
    have k10 := key 10 (by decide) _ kL10
    have k11 := key 11 (by decide) _ kL11
    have k12 := key 12 (by decide) _ kL12
    have k13 := key 13 (by decide) _ kL13
    have k14 := key 14 (by decide) _ kL14
    have k15 := key 15 (by decide) _ kL15
    have k16 := key 16 (by decide) _ kL16
    have k17 := key 17 (by decide) _ kL17
    have k18 := key 18 (by decide) _ kL18
    have k19 := key 19 (by decide) _ kL19
    have k20 := key 20 (by decide) _ kL20
    have k21 := key 21 (by decide) _ kL21
    rw [ite_i k0, ite_i k1, ite_i k2, ite_i k3, ite_i k4, ite_i k5, ite_i k6, ite_i k7, ite_i k8, ite_i k9, ite_i k10, ite_i k11, ite_i k12, ite_i k13, ite_i k14, ite_i k15, ite_i k16, ite_i k17, ite_i k18, ite_i k19, ite_i k20, ite_i k21]
    by_cases c0 : kid (xwv X p) = 0
    · rw [if_pos c0]; exact fin true rfl (by omega)
    rw [if_neg c0]
    by_cases c1 : kid (xwv X p) = 1
    · rw [if_pos c1]; exact fin true rfl (by omega)
    rw [if_neg c1]
    by_cases c2 : kid (xwv X p) = 2
    · rw [if_pos c2]; exact fin true rfl (by omega)
    rw [if_neg c2]
    by_cases c3 : kid (xwv X p) = 3
    · rw [if_pos c3]; exact fin true rfl (by omega)
    rw [if_neg c3]
    by_cases c4 : kid (xwv X p) = 4
    · rw [if_pos c4]; exact fin true rfl (by omega)
    rw [if_neg c4]
    by_cases c5 : kid (xwv X p) = 5
    · rw [if_pos c5]; exact fin true rfl (by omega)
    rw [if_neg c5]
    by_cases c6 : kid (xwv X p) = 6
    · rw [if_pos c6]; exact fin true rfl (by omega)
    rw [if_neg c6]
    by_cases c7 : kid (xwv X p) = 7
    · rw [if_pos c7]; exact fin true rfl (by omega)
    rw [if_neg c7]
    by_cases c8 : kid (xwv X p) = 8
    · rw [if_pos c8]; exact fin true rfl (by omega)
    rw [if_neg c8]
    by_cases c9 : kid (xwv X p) = 9
    · rw [if_pos c9]; exact fin true rfl (by omega)
    rw [if_neg c9]
    by_cases c10 : kid (xwv X p) = 10
    · rw [if_pos c10]; exact fin true rfl (by omega)
    rw [if_neg c10]
    by_cases c11 : kid (xwv X p) = 11
    · rw [if_pos c11]; exact fin true rfl (by omega)
    rw [if_neg c11]
    by_cases c12 : kid (xwv X p) = 12
    · rw [if_pos c12]; exact fin true rfl (by omega)
    rw [if_neg c12]
    by_cases c13 : kid (xwv X p) = 13
    · rw [if_pos c13]; exact fin true rfl (by omega)
    rw [if_neg c13]
    by_cases c14 : kid (xwv X p) = 14
    · rw [if_pos c14]; exact fin true rfl (by omega)
    rw [if_neg c14]
    by_cases c15 : kid (xwv X p) = 15
    · rw [if_pos c15]; exact fin true rfl (by omega)
    rw [if_neg c15]
    by_cases c16 : kid (xwv X p) = 16
    · rw [if_pos c16]; exact fin true rfl (by omega)
    rw [if_neg c16]
    by_cases c17 : kid (xwv X p) = 17
    · rw [if_pos c17]; exact fin true rfl (by omega)
    rw [if_neg c17]
    by_cases c18 : kid (xwv X p) = 18
    · rw [if_pos c18]; exact fin true rfl (by omega)
    rw [if_neg c18]
    by_cases c19 : kid (xwv X p) = 19
    · rw [if_pos c19]; exact fin true rfl (by omega)
    rw [if_neg c19]
    by_cases c20 : kid (xwv X p) = 20
    · rw [if_pos c20]; exact fin true rfl (by omega)
    rw [if_neg c20]
    by_cases c21 : kid (xwv X p) = 21
    · rw [if_pos c21]; exact fin true rfl (by omega)
    rw [if_neg c21]
    rw [sNm_i.mpr ⟨rfl, c, show 22 ≤ kid (xwv X p) by omega⟩]
    rfl
  · rw [if_neg c, sF_of (fun e => c (sNm_i.mp e).2.1)]
    rfl
end NMS
