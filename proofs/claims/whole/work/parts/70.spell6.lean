/-! The duty of spell, the class's side: what can't come into a sign's range. -/
/-- a house's choice, as the class writes it there -/
def cm (n : Nat) : Int32 := if n = 5 then -1 else nI n
/-- fuels that are left to burn -/
def dfK (K b : Nat) : Int32 := nI K - nI b
/-- no sum from the one to the other lies within -/
def ms1 (A : AV) (k b lo hi : Nat) : Bool := decide (aR A (4 * k + 2 * b + 1) < min lo 999) || decide (min hi 999 < aR A (4 * k + 2 * b))
def asT (A : AV) (w : Int32) (d s d' s' : Nat) : Bool := if w = -1 then false else (ms1 A (ix w) 0 d d' || ms1 A (ix w) 1 s s')
section SP6
variable {N x J : Nat} {A : AV} {S : AS}
theorem sQ_t {b : Bool} (h : ¬ b = false) : b = true := by
  cases b
  · exact absurd rfl h
  · rfl
theorem ni1 {k : Nat} (hk : k < 1000) : ¬ nI k = -1 := fun z => by
  have := congrArg Int32.toInt z
  rw [nI_toInt (by omega), show (-1 : Int32).toInt = -1 by decide] at this
  omega
theorem dfK_neg {K b : Nat} (hK : K < 2 ^ 30) (hb : b < 2 ^ 30) : dfK K b < 0 ↔ K < b := by
  unfold dfK
  rw [fa_lt, pk_sub_toInt hK hb, show (0 : Int32).toInt = 0 by decide]
  omega
theorem lt_dfK {a K b : Nat} (ha : a < 2 ^ 30) (hK : K < 2 ^ 30) (hb : b < 2 ^ 30) : nI a < dfK K b ↔ a + b < K := by
  unfold dfK
  rw [fa_lt, pk_sub_toInt hK hb, nI_toInt (by omega)]
  omega
theorem dfK_n {K b : Nat} (h : b ≤ K) : dfK K b = nI (K - b) := pk_sub h
theorem dfK_1 {K b : Nat} (hK : K < 2 ^ 29) (h : b ≤ K) : dfK K b - 1 = dfK K (b + 1) := by
  rw [dfK_n h]
  unfold dfK
  rw [fa_eq, show (1 : Int32) = nI 1 from rfl, pk_sub_toInt (by omega) (by omega), pk_sub_toInt (by omega) (by omega)]
  omega
theorem c_misses {h : PH} {v k b lo hi : Nat} (pv : VA h v A) (hk : k < aC A 3) (hb : b < 2) (hlo : lo < 2 ^ 31) (hhi : hi < 2 ^ 31) : f_X6_misses N v (nI k) (nI b) (nI lo) (nI hi) h = some (yb (ms1 A k b lo hi), h) := by
  have hW := pv.2.2.1
  have h6 := hW.1.2.2.2.1
  have a1 : aR A (4 * k + 2 * b + 1) ≤ 999 := by
    have := aR_le hW hk (j := 2 * b + 1) (by omega)
    rw [show 4 * k + 2 * b + 1 = 4 * k + (2 * b + 1) by omega]
    exact this
  have a0 : aR A (4 * k + 2 * b) ≤ 999 := aR_le hW hk (j := 2 * b) (by omega)
  have e : nI k * (4 : Int32) + nI b * (2 : Int32) = nI (4 * k + 2 * b) := by
    rw [show (4 : Int32) = nI 4 from rfl, show (2 : Int32) = nI 2 from rfl, pk_mul, pk_mul, nI_add, Nat.mul_comm k 4, Nat.mul_comm b 2]
  have n9 : (999 : Int32) = nI 999 := rfl
  unfold f_X6_misses ms1
  rw [e, bd_e, ck_p pv.1.1, vR_ranges pv.1, rq_s, ck_p (vK_ranges pv.1), vN_ranges pv.1, nI_1, ck_p (nI_ix (show 4 * k + 2 * b + 1 < 24 by omega) (by decide)), ix_nI (show 4 * k + 2 * b + 1 < 2 ^ 31 by omega), pv.2.1.2.2.2.2.2.1 (4 * k + 2 * b + 1) (by omega), n9, min9 hlo (by decide), ite_i (nI_ltI (by omega) (by omega))]
  by_cases c : aR A (4 * k + 2 * b + 1) < min lo 999
  · rw [if_pos c, decide_eq_true c, Bool.true_or]
    rfl
  · rw [if_neg c, rq_s, ck_p (vK_ranges pv.1), vN_ranges pv.1, ck_p (nI_ix (show 4 * k + 2 * b < 24 by omega) (by decide)), ix_nI (show 4 * k + 2 * b < 2 ^ 31 by omega), pv.2.1.2.2.2.2.2.1 (4 * k + 2 * b) (by omega), min9 hhi (by decide), ite_i (nI_leI (by omega) (by omega))]
    by_cases q : aR A (4 * k + 2 * b) ≤ min hi 999
    · rw [if_pos q, decide_eq_false c, decide_eq_false (show ¬ min hi 999 < aR A (4 * k + 2 * b) by omega)]
      rfl
    · rw [if_neg q, decide_eq_false c, decide_eq_true (show min hi 999 < aR A (4 * k + 2 * b) by omega)]
      rfl
theorem c_astray {h : PH} {v ai d s md ms : Nat} {w : Int32} (sp : SP h (x + 31)) (r3 : hR h (x + 31) 3 = some v) (pv : VA h v A) (ha : ai + 1 < 20) (h0 : hI h (x + 31 + 3) ai = nI md) (h1 : hI h (x + 31 + 3) (ai + 1) = nI ms) (hd : d + md < 2 ^ 31) (hs : s + ms < 2 ^ 31) (hw : w = -1 ∨ ∃ k, k < aC A 3 ∧ w = nI k) : f_X3_isAstray N (x + 31) w (nI d) (nI s) (nI ai) h = some (yb (asT A w d s (d + md) (s + ms)), h) := by
  have hW := pv.2.2.1
  have h6 := hW.1.2.2.2.1
  unfold f_X3_isAstray asT
  rcases hw with hw | ⟨k, hk, rfl⟩
  · rw [if_pos hw, if_pos hw]
    rfl
  · have m0 : f_X6_misses N v (nI k) 0 (nI d) (nI (d + md)) h = _ := c_misses (N := N) pv hk (b := 0) (by decide) (show d < 2 ^ 31 by omega) hd
    have m1 : f_X6_misses N v (nI k) 1 (nI s) (nI (s + ms)) h = _ := c_misses (N := N) pv hk (b := 1) (by decide) (show s < 2 ^ 31 by omega) hs
    have z0 : nI ai + (0 : Int32) = nI ai := nI_add ai 0
    rw [if_neg (ni1 (by omega)), if_neg (ni1 (by omega)), ck_p sp.1, r3, rq_s, sp.2.1.2.2, rq_s, ck_p sp.2.2.2.2.1, sp.2.2.2.2.2, z0, ck_p (nI_ix (by omega) (by decide)), ck_p pv.1.1, ix_nI (show ai < 2 ^ 31 by omega), h0, nI_add d md, m0, cl_s, ite_i yb0, ix_nI (show k < 2 ^ 31 by omega)]
    by_cases c : ms1 A k 0 d (d + md) = false
    · rw [if_pos c, ck_p sp.1, r3, rq_s, sp.2.1.2.2, rq_s, ck_p sp.2.2.2.2.1, sp.2.2.2.2.2, nI_1 ai, ck_p (nI_ix (by omega) (by decide)), ck_p pv.1.1, ix_nI (show ai + 1 < 2 ^ 31 by omega), h1, nI_add s ms, m1, cl_s, ite_i yb0, c, Bool.false_or]
      by_cases q : ms1 A k 1 s (s + ms) = false
      · rw [if_pos q, q]; rfl
      · rw [if_neg q, sQ_t q]; rfl
    · rw [if_neg c, sQ_t c, Bool.true_or]; rfl
/-- where a sum's bounds lie astray, it tells another sign -/
theorem as_no (hW : WV A) {T : AS} {u : Nat → Nat} {f d s d' s' : Nat} {w : Int32} (e0 : min d 999 ≤ sb A T u f 0) (e1 : sb A T u f 0 ≤ min d' 999) (e2 : min s 999 ≤ sb A T u f 1) (e3 : sb A T u f 1 ≤ min s' 999) (hw : w = -1 ∨ ∃ k, k < aC A 3 ∧ w = nI k) (t : asT A w d s d' s' = true) : sbs A T u f ≠ w := by
  have h6 := hW.1.2.2.2.1
  unfold asT at t
  rcases hw with hw | ⟨k, hk, rfl⟩
  · rw [if_pos hw] at t
    exact absurd t (by decide)
  · rw [if_neg (ni1 (by omega)), ix_nI (by omega)] at t
    intro z
    unfold sbs at z
    obtain ⟨⟨p1, p2⟩, p3, p4⟩ := aSign_fit (by omega) h6 z (by
      have := aSg_le (A := A) (d := sb A T u f 0) (s := sb A T u f 1) (aC A 3) 0 (by omega)
      omega)
    unfold ms1 at t
    rw [Bool.or_eq_true, Bool.or_eq_true, Bool.or_eq_true, decide_eq_true_eq, decide_eq_true_eq, decide_eq_true_eq, decide_eq_true_eq] at t
    rw [show 4 * k + 2 * 0 + 1 = 4 * k + 1 from rfl, show 4 * k + 2 * 0 = 4 * k from rfl, show 4 * k + 2 * 1 + 1 = 4 * k + 3 from rfl, show 4 * k + 2 * 1 = 4 * k + 2 from rfl] at t
    omega
end SP6
