/-! Duties: blur, given. -/
/-- what fits two signs by dark (0) or sweet (1) -/
def ov (A : AV) (s q b : Nat) : Prop := aR A (4 * s + 2 * b) ≤ aR A (4 * q + 2 * b + 1) ∧ aR A (4 * q + 2 * b) ≤ aR A (4 * s + 2 * b + 1)
noncomputable def ovd (A : AV) (s q b : Nat) : Bool := @decide (ov A s q b) (Classical.propDecidable _)
theorem ovd_t {A : AV} {s q b : Nat} : ovd A s q b = true ↔ ov A s q b := by unfold ovd; simp
/-- whom a blur reaches -/
noncomputable def blw (A : AV) (s q i : Nat) : Bool := (ovd A s q 0 || decide (aG A i = 1)) && (ovd A s q 1 || decide (aG A i = 0))
def yb (b : Bool) : Int32 := if b = true then 1 else 0
theorem aR_up {A : AV} (hW : WV A) {k b : Nat} (hk : k < aC A 3) (hb : b < 2) : aR A (4 * k + 2 * b) ≤ aR A (4 * k + 2 * b + 1) ∧ aR A (4 * k + 2 * b + 1) ≤ 999 := by
  have q := hW.2.2.2.2.2.1 k hk
  rcases (show b = 0 ∨ b = 1 by omega) with rfl | rfl
  · exact ⟨q.1, q.2.1⟩
  · exact ⟨q.2.2.1, q.2.2.2⟩
section BG
variable {N : Nat} {h : PH} {A : AV}
theorem c_overlap {v : Nat} (p : VA h v A) {s q b : Nat} (hs : s < aC A 3) (hq : q < aC A 3) (hb : b < 2) : f_X6_overlap N v (nI s) (nI q) (nI b) h = some (yb (ovd A s q b), h) := by
  have hV := p.1
  have hC := p.2.1
  have hW := p.2.2.1
  have h6 := hW.1.2.2.2.1
  obtain ⟨a1, a2⟩ := aR_up hW hs hb
  obtain ⟨a3, a4⟩ := aR_up hW hq hb
  have e : ∀ s, nI s * (4 : Int32) + nI b * (2 : Int32) = nI (4 * s + 2 * b) := fun s => by
    rw [show (4 : Int32) = nI 4 from rfl, show (2 : Int32) = nI 2 from rfl, pk_mul, pk_mul, nI_add, Nat.mul_comm s, Nat.mul_comm b]
  have i1 : inb (nI (4 * s + 2 * b)) 24 := nI_ix (by omega) (by decide)
  have i2 : inb (nI (4 * s + 2 * b + 1)) 24 := nI_ix (by omega) (by decide)
  have i3 : inb (nI (4 * q + 2 * b)) 24 := nI_ix (by omega) (by decide)
  have i4 : inb (nI (4 * q + 2 * b + 1)) 24 := nI_ix (by omega) (by decide)
  have x1 : ix (nI (4 * s + 2 * b)) = 4 * s + 2 * b := ix_nI (by omega)
  have x2 : ix (nI (4 * s + 2 * b + 1)) = 4 * s + 2 * b + 1 := ix_nI (by omega)
  have x3 : ix (nI (4 * q + 2 * b)) = 4 * q + 2 * b := ix_nI (by omega)
  have x4 : ix (nI (4 * q + 2 * b + 1)) = 4 * q + 2 * b + 1 := ix_nI (by omega)
  have r := hC.2.2.2.2.2.1
  unfold f_X6_overlap
  simp only [bd_e, e, nI_1]
  rw [ck_p hV.1, vR_ranges hV, rq_s, ck_p (vK_ranges hV), vN_ranges hV, ck_p i1, rq_s, ck_p (vK_ranges hV), vN_ranges hV, ck_p i4, x1, x4, r _ (by omega), r _ (by omega), ite_i (nI_ltI (by omega) (by omega))]
  unfold yb
  by_cases c : aR A (4 * q + 2 * b + 1) < aR A (4 * s + 2 * b)
  · rw [if_pos c, if_neg (fun z => by have := (ovd_t.mp z).1; omega)]
  · rw [if_neg c, rq_s, ck_p (vK_ranges hV), vN_ranges hV, ck_p i3, rq_s, ck_p (vK_ranges hV), vN_ranges hV, ck_p i2, x2, x3, r _ (by omega), r _ (by omega), ite_i (nI_ltI (by omega) (by omega))]
    by_cases c2 : aR A (4 * s + 2 * b + 1) < aR A (4 * q + 2 * b)
    · rw [if_pos c2, if_neg (fun z => by have := (ovd_t.mp z).2; omega)]
    · rw [if_neg c2, if_pos (ovd_t.mpr ⟨by omega, by omega⟩)]
theorem m_areMet {y : Nat} (m : MD h y) (hC : MV h y A) (hW : WV A) {s q b : Nat} (hs : s < aC A 3) (hq : q < aC A 3) (hb : b < 2) : f_X11_areMet N y (nI s) (nI q) (nI b) h = some (yb (ovd A s q b), h) := by
  have h6 := hW.1.2.2.2.1
  obtain ⟨a1, a2⟩ := aR_up hW hs hb
  obtain ⟨a3, a4⟩ := aR_up hW hq hb
  have e : ∀ s, (4 : Int32) * nI s + (2 : Int32) * nI b = nI (4 * s + 2 * b) := fun s => by
    rw [show (4 : Int32) = nI 4 from rfl, show (2 : Int32) = nI 2 from rfl, pk_mul, pk_mul, nI_add]
  have i1 : inb (nI (4 * s + 2 * b)) 48 := nI_ix (by omega) (by decide)
  have i2 : inb (nI (4 * s + 2 * b + 1)) 48 := nI_ix (by omega) (by decide)
  have i3 : inb (nI (4 * q + 2 * b)) 48 := nI_ix (by omega) (by decide)
  have i4 : inb (nI (4 * q + 2 * b + 1)) 48 := nI_ix (by omega) (by decide)
  have x1 : ix (nI (4 * s + 2 * b)) = 4 * s + 2 * b := ix_nI (by omega)
  have x2 : ix (nI (4 * s + 2 * b + 1)) = 4 * s + 2 * b + 1 := ix_nI (by omega)
  have x3 : ix (nI (4 * q + 2 * b)) = 4 * q + 2 * b := ix_nI (by omega)
  have x4 : ix (nI (4 * q + 2 * b + 1)) = 4 * q + 2 * b + 1 := ix_nI (by omega)
  have r := hC.2.2.2.2.1
  unfold f_X11_areMet
  simp only [e, nI_1]
  rw [ck_p m.1, mR_signs m, rq_s, ck_p (mK_signs m), mN_signs m, ck_p i1, rq_s, ck_p (mK_signs m), mN_signs m, ck_p i3, rq_s, ck_p (mK_signs m), mN_signs m, ck_p i2, rq_s, ck_p (mK_signs m), mN_signs m, ck_p i4, x1, x2, x3, x4, r _ (by omega), r _ (by omega), r _ (by omega), r _ (by omega), min9' (by omega) (by omega), show (if nI (aR A (4 * s + 2 * b)) < nI (aR A (4 * q + 2 * b)) then nI (aR A (4 * q + 2 * b)) else nI (aR A (4 * s + 2 * b))) = nI (max (aR A (4 * s + 2 * b)) (aR A (4 * q + 2 * b))) by
    rw [ite_i (nI_ltI (by omega) (by omega))]
    by_cases c : aR A (4 * s + 2 * b) < aR A (4 * q + 2 * b)
    · rw [if_pos c, Nat.max_eq_right (by omega)]
    · rw [if_neg c, Nat.max_eq_left (by omega)], ite_i (nI_ltI (by omega) (by omega))]
  unfold yb
  by_cases c : ov A s q b
  · rw [if_neg (by have := c.1; have := c.2; omega), if_pos (ovd_t.mpr c)]
  · rw [if_pos (by unfold ov at c; omega), if_neg (fun z => c (ovd_t.mp z))]
theorem c_bl {x v w s q : Nat} (ob : OB h x v w) (p : VA h v A) : ∀ (n i : Nat), aC A 4 < n + i → i ≤ aC A 4 → f_X10_blur_60 N n x (yb (ovd A s q 0)) (yb (ovd A s q 1)) (nI (bts (blw A s q) i)) (nI i) h = some (nI (bts (blw A s q) (aC A 4)), h)
  | 0, i, h1, h2 => by omega
  | n + 1, i, h1, h2 => by
    have hW := p.2.2.1
    have h4 := hW.1.2.2.2.2.1
    show f_X10_blur_60_b N (f_X10_blur_60 N n) x _ _ _ _ h = _
    unfold f_X10_blur_60_b
    rw [ck_p ob.k9, ob.R8, rq_s, ck_p p.1.1, vR_many p.1, rq_s, ck_p (vK_many p.1), vN_many p.1, ck_p (by decide), p.2.1.1 4 (by decide), ite_i (nI_leI (by omega) (by omega))]
    by_cases c : aC A 4 ≤ i
    · rw [if_pos c, show i = aC A 4 by omega]
    · have hg := hW.2.2.2.2.2.2.1 i (by omega)
      have g1 : nI (aG A i) = 1 ↔ aG A i = 1 := nI_eq (b := 1) (by omega) (by decide)
      have g0 : nI (aG A i) = 0 ↔ aG A i = 0 := nI_eq (b := 0) (by omega) (by decide)
      have ih := c_bl (s := s) (q := q) ob p n (i + 1) (by omega) (by omega)
      rw [bts_succ] at ih
      rw [if_neg c, rq_s, ck_p p.1.1, vR_sights p.1, rq_s, ck_p (vK_sights p.1), vN_sights p.1, ck_p (nI_ix (by omega) (by decide)), ix_nI (by omega), p.2.1.2.2.2.2.2.2.1 i (by omega), bd_e]
      have on : ((ovd A s q 0 || decide (aG A i = 1)) && (ovd A s q 1 || decide (aG A i = 0))) = true → f_X10_blur_106 N (f_X10_blur_60 N n) x (yb (ovd A s q 0)) (yb (ovd A s q 1)) (nI (bts (blw A s q) i)) (nI i) h = some (nI (bts (blw A s q) (aC A 4)), h) := fun t => by
        unfold f_X10_blur_106 f_X10_blur_115
        rw [bd_e, bd_e, nI_1, bts_or _ (by omega)]
        rw [if_pos (show blw A s q i = true from t)] at ih
        exact ih
      have off : ((ovd A s q 0 || decide (aG A i = 1)) && (ovd A s q 1 || decide (aG A i = 0))) = false → f_X10_blur_115 N (f_X10_blur_60 N n) x (yb (ovd A s q 0)) (yb (ovd A s q 1)) (nI (bts (blw A s q) i)) (nI i) h = some (nI (bts (blw A s q) (aC A 4)), h) := fun t => by
        unfold f_X10_blur_115
        rw [bd_e, nI_1]
        rw [if_neg (by rw [show blw A s q i = false from t]; decide)] at ih
        exact ih
      unfold f_X10_blur_96
      clear ih
      generalize ovd A s q 0 = o0 at on off ⊢
      generalize ovd A s q 1 = o1 at on off ⊢
      cases o0 with
      | true =>
        rw [show yb true = 1 from rfl] at on off ⊢
        rw [if_neg one0]
        cases o1 with
        | true =>
          rw [show yb true = 1 from rfl] at on off ⊢
          rw [if_neg one0]
          exact on rfl
        | false =>
          rw [show yb false = 0 from rfl] at on off ⊢
          rw [if_pos rfl, ite_i g0]
          by_cases z : aG A i = 0
          · rw [if_pos z]; exact on (by simp [z])
          · rw [if_neg z]; exact off (by simp [z])
      | false =>
        rw [show yb false = 0 from rfl] at on off ⊢
        rw [if_pos rfl, ite_i g1]
        by_cases z1 : aG A i = 1
        · rw [if_pos z1]
          cases o1 with
          | true =>
            rw [show yb true = 1 from rfl] at on off ⊢
            rw [if_neg one0]
            exact on (by simp [z1])
          | false =>
            rw [show yb false = 0 from rfl] at on off ⊢
            rw [if_pos rfl, ite_i g0, if_neg (by omega)]
            exact off (by simp [z1])
        · rw [if_neg z1]; exact off (by simp [z1])
theorem m_bl {y s q : Nat} (m : MD h y) (hC : MV h y A) (hW : WV A) (hs : s < aC A 3) (hq : q < aC A 3) : ∀ (n i : Nat), aC A 4 < n + i → i ≤ aC A 4 → f_X11_blur_33 N n y (nI s) (nI q) (nI (bts (blw A s q) i)) (nI i) h = some (nI (bts (blw A s q) (aC A 4)), h)
  | 0, i, h1, h2 => by omega
  | n + 1, i, h1, h2 => by
    have h4 := hW.1.2.2.2.2.1
    show f_X11_blur_33_b N (f_X11_blur_33 N n) y _ _ _ _ h = _
    unfold f_X11_blur_33_b
    rw [ck_p m.1, mR_valley m, rq_s, ck_p (mK_valley m), mN_valley m, ck_p (by decide), hC.1 4 (by decide), ite_i (nI_leI (by omega) (by omega))]
    by_cases c : aC A 4 ≤ i
    · rw [if_pos c, show i = aC A 4 by omega]
    · have hg := hW.2.2.2.2.2.2.1 i (by omega)
      have g2 : nI (aG A i) = 2 ↔ aG A i = 2 := nI_eq (b := 2) (by omega) (by decide)
      have ih := m_bl m hC hW hs hq n (i + 1) (by omega) (by omega)
      rw [bts_succ] at ih
      have ji : inb (nI i) 8 := nI_ix (by omega) (by decide)
      have ki : ix (nI i) = i := ix_nI (by omega)
      have vi : hI h (y + 10) i = nI (aG A i) := hC.2.2.2.2.2.1 i (by omega)
      have k0 : f_X11_areMet N y (nI s) (nI q) 0 h = _ := m_areMet m hC hW hs hq (b := 0) (by decide)
      have k1 : f_X11_areMet N y (nI s) (nI q) 1 h = _ := m_areMet m hC hW hs hq (b := 1) (by decide)
      have put : ∀ t : Bool, ((ovd A s q 0 || decide (aG A i = 1)) && (ovd A s q 1 || decide (aG A i = 0))) = t → f_X11_blur_96 N (f_X11_blur_33 N n) (yb t) y (nI s) (nI q) (nI (bts (blw A s q) i)) (nI i) h = some (nI (bts (blw A s q) (aC A 4)), h) := fun t ht => by
        have ht : blw A s q i = t := ht
        unfold f_X11_blur_96 f_X11_blur_112
        cases t with
        | true =>
          rw [show yb true = 1 from rfl, if_neg one0, bd_e, bd_e, nI_1, bts_or _ (by omega)]
          rw [if_pos ht] at ih
          exact ih
        | false =>
          rw [show yb false = 0 from rfl, if_pos rfl, bd_e, bd_e, nI_1, bts_or0]
          rw [if_neg (by rw [ht]; decide)] at ih
          exact ih
      rw [if_neg c, mR_sight m, rq_s, ck_p (mK_sight m), mN_sight m, ck_p ji, ki, vi, ite_i g2]
      unfold f_X11_blur_79
      by_cases z2 : aG A i = 2
      · rw [if_pos z2, k0, cl_s]
        by_cases d0 : ovd A s q 0 = true
        · rw [d0, show yb true = 1 from rfl, if_neg one0, ck_p m.1, k1, cl_s]
          by_cases d1 : ovd A s q 1 = true
          · rw [d1, show yb true = 1 from rfl, if_neg one0]
            exact put true (by simp [d0, d1])
          · have d1 : ovd A s q 1 = false := by simpa using d1
            rw [d1, show yb false = 0 from rfl, if_pos rfl]
            exact put false (by simp [d1, z2])
        · have d0 : ovd A s q 0 = false := by simpa using d0
          rw [d0, show yb false = 0 from rfl, if_pos rfl]
          exact put false (by simp [d0, z2])
      · rw [if_neg z2, rq_s, ck_p (mK_sight m), mN_sight m, ck_p ji, vi, m_areMet m hC hW hs hq (b := aG A i) (by omega), cl_s]
        refine put _ ?_
        rcases (show aG A i = 0 ∨ aG A i = 1 by omega) with z | z
        · rw [z]; simp
        · rw [z]; simp
def popc (X : Nat) : Nat := X % 2 + X / 2 % 2 + X / 4 % 2 + X / 8 % 2
def bcx (l0 : Int32) : Int32 :=
  let v1 := l0 - ((g_iushr l0 (1 : Int32)) &&& (1431655765 : Int32))
  let v2 := (v1 &&& (858993459 : Int32)) + ((g_iushr v1 (2 : Int32)) &&& (858993459 : Int32))
  let v3 := (v2 + (g_iushr v2 (4 : Int32))) &&& (252645135 : Int32)
  let v4 := v3 + (g_iushr v3 (8 : Int32))
  let v5 := v4 + (g_iushr v4 (16 : Int32))
  v5 &&& (63 : Int32)
theorem bcx_n : ∀ X, X < 16 → bcx (nI X) = nI (popc X) := by decide +kernel
theorem c_bitCount {X : Nat} (hX : X < 16) : f_J6_bitCount_0f7a4 N (nI X) h = some (nI (popc X), h) := by
  show some (bcx (nI X), h) = _
  rw [bcx_n X hX]
theorem mbx_n : ∀ X, X < 16 → (((((nI X &&& (1 : Int32)) + ((nI X >>> ((1 : Int32) &&& 31)) &&& (1 : Int32))) + ((nI X >>> ((2 : Int32) &&& 31)) &&& (1 : Int32))) + ((nI X >>> ((3 : Int32) &&& 31)) &&& (1 : Int32)))) = nI (popc X) := by decide +kernel
theorem m_bits {X : Nat} (hX : X < 16) : f_X11_bits N (nI X) h = some (nI (popc X), h) := by
  unfold f_X11_bits
  rw [mbx_n X hX]
theorem popc_pos : ∀ X, X < 16 → ∀ i, i < 4 → X.testBit i = true → 0 < popc X := by decide +kernel
theorem popc_le (X : Nat) : popc X ≤ 4 := by unfold popc; omega
theorem bt_sh1 : ∀ X, X < 16 → ∀ i, i < 4 → (((nI X >>> (nI i &&& 31)) &&& (1 : Int32)) = 1 ↔ X.testBit i = true) := by decide +kernel
/-- what they have of a fuel, and how many of them come ahead -/
def gvn (S : AS) (X f i : Nat) : Nat := fb_sm (fun e => if X.testBit e = true then tT S (5 * e + f) else 0) i
def ahd (X k i : Nat) : Nat := fb_sm (fun e => if X.testBit e = true ∧ e < k then 1 else 0) i
def gvr (a d c : Nat) : Int32 := if nI a - nI a / nI c * nI c ≤ nI d then nI a / nI c + (0 : Int32) else nI a / nI c + (1 : Int32)
theorem c_gv {x v w k X f : Nat} {S : AS} (ob : OB h x v w) (p : VA h v A) (cS : CS h (x + 3 + 1) S) (hX : X < 16) (hf : f < 5) (hk : k < 4) (hp : 0 < popc X) : ∀ (n i : Nat), aC A 2 < n + i → i ≤ aC A 2 → f_X10_given_52 N n x (nI k) (nI f) (nI X) (nI (gvn S X f i)) (nI (ahd X k i)) (nI i) h = some (gvr (gvn S X f (aC A 2)) (ahd X k (aC A 2)) (popc X), h)
  | 0, i, h1, h2 => by omega
  | n + 1, i, h1, h2 => by
    have hW := p.2.2.1
    have h4 := hW.1.2.2.1
    have pl := popc_le X
    show f_X10_given_52_b N (f_X10_given_52 N n) x _ _ _ _ _ _ h = _
    unfold f_X10_given_52_b
    rw [ck_p ob.k9, ob.R8, rq_s, ck_p p.1.1, vR_many p.1, rq_s, ck_p (vK_many p.1), vN_many p.1, ck_p (by decide), p.2.1.1 2 (by decide), ite_i (nI_leI (by omega) (by omega))]
    by_cases c : aC A 2 ≤ i
    · rw [if_pos c, show i = aC A 2 by omega, c_bitCount hX, cl_s, if_pos (show (1 : Int32) ≤ nI (popc X) from nI_le (a := 1) hp (by omega)), ck_p (nI_ne0 hp (by omega))]
      unfold gvr f_X10_given_149
      split <;> rfl
    · have ih := c_gv (k := k) ob p cS hX hf hk hp n (i + 1) (by omega) (by omega)
      rw [if_neg c, ite_i (bt_sh X hX i (by omega))]
      by_cases t : X.testBit i = false
      · rw [if_pos t]
        unfold f_X10_given_109
        rw [bd_e, nI_1]
        unfold gvn ahd at ih ⊢
        rw [fb_sm_succ, fb_sm_succ, if_neg (by rw [t]; decide), if_neg (fun z => by rw [t] at z; exact absurd z.1 (by decide))] at ih
        exact ih
      · have t : X.testBit i = true := by simpa using t
        rw [if_neg (by rw [t]; decide), ob.R1, rq_s, ck_p ob.mt.1, ob.mt.2.1.1, rq_s, ck_p ob.st.1, c_stockOf ob.st cS (by omega) hf, cl_s, nI_add, bd_e, ite_i (nI_leI (by omega) (by omega))]
        unfold f_X10_given_106 f_X10_given_109
        unfold gvn ahd at ih ⊢
        rw [fb_sm_succ, fb_sm_succ, if_pos t] at ih
        by_cases ki : k ≤ i
        · rw [if_pos ki, bd_e, bd_e, nI_1, show ∀ z, nI z + (0 : Int32) = nI (z + 0) from fun z => nI_add z 0]
          rw [if_neg (by omega)] at ih
          exact ih
        · rw [if_neg ki, bd_e, bd_e, nI_1, nI_1]
          rw [if_pos ⟨t, by omega⟩] at ih
          exact ih
theorem m_gv {y k X f : Nat} {S : AS} (m : MD h y) (hC : MV h y A) (hW : WV A) (rS : RS (hI h (y + 37)) 0 S) (hX : X < 16) (hf : f < 5) (hk : k < 4) (hp : 0 < popc X) : ∀ (n i : Nat), aC A 2 < n + i → i ≤ aC A 2 → f_X11_given_43 N n y (nI k) (nI f) (nI X) (nI (gvn S X f i)) (nI (ahd X k i)) (nI i) h = some (gvr (gvn S X f (aC A 2)) (ahd X k (aC A 2)) (popc X), h)
  | 0, i, h1, h2 => by omega
  | n + 1, i, h1, h2 => by
    have h4 := hW.1.2.2.1
    have pl := popc_le X
    show f_X11_given_43_b N (f_X11_given_43 N n) y _ _ _ _ _ _ h = _
    unfold f_X11_given_43_b
    rw [ck_p m.1, mR_valley m, rq_s, ck_p (mK_valley m), mN_valley m, ck_p (by decide), hC.1 2 (by decide), ite_i (nI_leI (by omega) (by omega))]
    by_cases c : aC A 2 ≤ i
    · rw [if_pos c, show i = aC A 2 by omega, m_bits hX, cl_s, ck_p (nI_ne0 hp (by omega)), m_bits hX, cl_s, ck_p (nI_ne0 hp (by omega))]
      unfold gvr f_X11_given_143
      split <;> rfl
    · have ih := m_gv (k := k) m hC hW rS hX hf hk hp n (i + 1) (by omega) (by omega)
      rw [if_neg c, ite_i (bt_sh1 X hX i (by omega))]
      unfold f_X11_given_84 f_X11_given_109 f_X11_given_110
      by_cases t : X.testBit i = true
      · have e := rS.2.2.2.1 (5 * i + f) (by omega)
        rw [Nat.zero_add] at e
        rw [if_pos t, mR_s m, rq_s, ck_p (mK_s m), mN_s m, m_ix, ck_p (nI_ix (by omega) (by decide)), ix_nI (by omega), e, nI_add, bd_e, if_pos ((bt_sh1 X hX i (by omega)).mpr t), ite_i (nI_leI (by omega) (by omega))]
        unfold gvn ahd at ih ⊢
        rw [fb_sm_succ, fb_sm_succ, if_pos t] at ih
        by_cases ki : k ≤ i
        · rw [if_pos ki, bd_e, bd_e, nI_1, show ∀ z, nI z + (0 : Int32) = nI (z + 0) from fun z => nI_add z 0]
          rw [if_neg (by omega)] at ih
          exact ih
        · rw [if_neg ki, bd_e, bd_e, nI_1, nI_1]
          rw [if_pos ⟨t, by omega⟩] at ih
          exact ih
      · rw [if_neg t, bd_e, if_neg (fun z => t ((bt_sh1 X hX i (by omega)).mp z)), bd_e, bd_e, nI_1, show ∀ z, nI z + (0 : Int32) = nI (z + 0) from fun z => nI_add z 0, show ∀ z, nI z + (0 : Int32) = nI (z + 0) from fun z => nI_add z 0]
        unfold gvn ahd at ih ⊢
        rw [fb_sm_succ, fb_sm_succ, if_neg t, if_neg (fun z => t z.1)] at ih
        exact ih
end BG
section DY6
variable {N x y o J : Nat}
theorem d_blur (hN2 : 2000 ≤ N) : D_blur (INV N x y o J) (INV N x y o (J + 1)) N x y := by
  intro a b h ⟨v, w, A, M, pn, pc, P, lb, K, tn, tb, q⟩
  obtain ⟨p0, ob, pv, pm, pnm, ⟨cM, rS, rD, rR, wM⟩, pP, pK, pT⟩ := id q
  have hW := pv.2.2.1
  have h6 := hW.1
  have q2 := q.thr 0
  obtain ⟨-, -, -, pm2, -⟩ := id q2
  have m2 := pm2.1
  have e0 : (0 : Int32) = nI (bts (blw A 0 0) 0) := rfl
  obtain ⟨r, e1, e2⟩ : ∃ r, f_X10_blur N x a b h = some (r, h) ∧ f_X11_blur N y a b h = some (r, sI h y 0 0) := by
    unfold f_X10_blur f_X11_blur
    rw [ck_p ob.k9, ob.R8, rq_s, ck_p pv.1.1, c_has3 pv, cl_s, ck_p pm.1.1, bd_e, ck_p m2.1, m_isTold m2 pm2.2.1, cl_s]
    by_cases c1 : ¬ a < 0 ∧ ¬ nI (aC A 3) ≤ a
    rotate_left
    · rw [yesF c1, if_pos rfl, if_pos rfl]
      exact ⟨_, rfl, rfl⟩
    rw [yesT c1, if_neg one0, if_neg one0, ck_p ob.k9, ob.R8, rq_s, ck_p pv.1.1, c_has3 pv, cl_s, ck_p m2.1, m_isTold m2 pm2.2.1, cl_s]
    by_cases c2 : ¬ b < 0 ∧ ¬ nI (aC A 3) ≤ b
    rotate_left
    · rw [yesF c2, if_pos rfl, if_pos rfl]
      exact ⟨_, rfl, rfl⟩
    rw [yesT c2, if_neg one0, if_neg one0]
    by_cases c3 : a = b
    · rw [if_pos c3, if_pos c3]
      exact ⟨_, rfl, rfl⟩
    obtain ⟨s, hs, rfl⟩ := told (by omega) c1
    obtain ⟨t, ht, rfl⟩ := told (by omega) c2
    have k0 : f_X6_overlap N v (nI s) (nI t) 0 h = _ := c_overlap pv hs ht (b := 0) (by decide)
    have k1 : f_X6_overlap N v (nI s) (nI t) 1 h = _ := c_overlap pv hs ht (b := 1) (by decide)
    rw [if_neg c3, if_neg c3, ck_p ob.k9, ob.R8, rq_s, ck_p pv.1.1, k0, cl_s, ck_p ob.k9, ob.R8, rq_s, ck_p pv.1.1, k1, cl_s]
    exact ⟨_, c_bl ob pv N 0 (by omega) (by omega), m_bl m2 pm2.2.1 hW hs ht N 0 (by omega) (by omega)⟩
  exact wp2 e1 pm.1.1 e2 q2.inv
theorem d_given (hN2 : 2000 ≤ N) : D_given (INV N x y o J) (INV N x y o (J + 1)) N x y := by
  intro a b h ⟨v, w, A, M, pn, pc, P, lb, K, tn, tb, q⟩
  obtain ⟨p0, ob, pv, pm, pnm, ⟨cM, rS, rD, rR, wM⟩, pP, pK, pT⟩ := id q
  have hW := pv.2.2.1
  have h6 := hW.1
  have q2 := q.thr 0
  obtain ⟨-, -, -, pm2, -, ⟨-, rS2, -⟩, -⟩ := id q2
  have m2 := pm2.1
  obtain ⟨r, e1, e2⟩ : ∃ r, f_X10_given N x a b h = some (r, h) ∧ f_X11_given N y a b h = some (r, sI h y 0 0) := by
    unfold f_X10_given f_X11_given
    rw [ck_p ob.k9, ob.R8, rq_s, ck_p pv.1.1, c_has2 pv, cl_s, ck_p pm.1.1, bd_e, ck_p m2.1, m_isHouse m2 pm2.2.1, cl_s]
    by_cases c1 : ¬ a < 0 ∧ ¬ nI (aC A 2) ≤ a
    rotate_left
    · rw [yesF c1, if_pos rfl, if_pos rfl]
      exact ⟨_, rfl, rfl⟩
    rw [yesT c1, if_neg one0, if_neg one0, ck_p ob.k9, ob.R8, rq_s, ck_p pv.1.1, c_has0 pv, cl_s, ck_p m2.1, m_isFuel m2 pm2.2.1, cl_s]
    by_cases c2 : ¬ b < 0 ∧ ¬ nI (aC A 0) ≤ b
    rotate_left
    · rw [yesF c2, if_pos rfl, if_pos rfl]
      exact ⟨_, rfl, rfl⟩
    rw [yesT c2, if_neg one0, if_neg one0]
    obtain ⟨k, hk, rfl⟩ := told (by omega) c1
    obtain ⟨f, hf, rfl⟩ := told (by omega) c2
    have hfl := hW.2.2.1 k hk
    have tb2 : (aHs A (aF A k)).testBit k = true := by unfold aHs; rw [bts_tb]; simp [hk]
    have hp := popc_pos _ (aHs_lt hW (aF A k)) k (by omega) tb2
    rw [ck_p ob.k9, ob.R8, rq_s, rq_s, ck_p pv.1.1, vR_flue pv.1, rq_s, ck_p (vK_flue pv.1), vN_flue pv.1, ck_p (nI_ix (by omega) (by decide)), ck_p pv.1.1, ix_nI (by omega), pv.2.1.2.2.2.1 k hk, c_housesAt (by omega) pv.1 pv.2.1 hW (by omega), cl_s, ck_p m2.1, mR_houseAt m2, rq_s, ck_p (mK_houseAt m2), mN_houseAt m2, ck_p (nI_ix (by omega) (by decide)), pm2.2.1.2.2.1 k hk, m_housesOf (by omega) m2 pm2.2.1 hW (by omega), cl_s]
    exact ⟨_, c_gv ob pv cM.1 (aHs_lt hW _) (by omega) (by omega) hp N 0 (by omega) (by omega), m_gv m2 pm2.2.1 hW rS2 (aHs_lt hW _) (by omega) (by omega) hp N 0 (by omega) (by omega)⟩
  exact wp2 e1 pm.1.1 e2 q2.inv
end DY6
