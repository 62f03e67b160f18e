/-! What is read, and all ways, on the reference's side. -/
def lwP (y z : Nat) : Prop := z = y + 42 ∨ z = y + 46 ∨ z = y + 47 ∨ inM y z
section SE
variable {N y J : Nat} {A : AV} {S : AS} {R : AR}
theorem m_isWithin {h : PH} (m : MD h y) (hC : MV h y A) (hW : WV A) {k b z : Nat} (hk : k < aC A 3) (hb : b < 2) (hz : z ≤ 999) : f_X11_isWithin N y (nI k) (nI z) (nI b) h = some (yb (fitB A k z b), h) := by
  have h6 := hW.1.2.2.2.1
  obtain ⟨a1, a2⟩ := aR_up hW hk hb
  have e : (4 : Int32) * nI k + (2 : Int32) * nI b = nI (4 * k + 2 * b) := by
    rw [show (4 : Int32) = nI 4 from rfl, show (2 : Int32) = nI 2 from rfl, pk_mul, pk_mul, nI_add]
  have r := hC.2.2.2.2.1
  have i1 : inb (nI (4 * k + 2 * b)) 48 := nI_ix (by omega) (by decide)
  have i2 : inb (nI (4 * k + 2 * b + 1)) 48 := nI_ix (by omega) (by decide)
  have x1 : ix (nI (4 * k + 2 * b)) = 4 * k + 2 * b := ix_nI (by omega)
  have x2 : ix (nI (4 * k + 2 * b + 1)) = 4 * k + 2 * b + 1 := ix_nI (by omega)
  unfold f_X11_isWithin
  rw [e, nI_1, ck_p m.1, mR_signs m, rq_s, ck_p (mK_signs m), mN_signs m, ck_p i1, rq_s, ck_p (mK_signs m), mN_signs m, ck_p i2, x1, x2, r _ (by omega), r _ (by omega), m_within, cl_s, ck_p yes_g]
  congr 2
  refine yes_yb ?_
  unfold fitB
  rw [decide_eq_true_eq, nI_ltI (by omega) (by omega), nI_ltI (by omega) (by omega)]
  omega
theorem m_fn {h : PH} (m : MD h y) (hC : MV h y A) (hW : WV A) {b z : Nat} (hb : b < 2) (hz : z ≤ 999) : ∀ (n i : Nat), aC A 3 < n + i → i ≤ aC A 3 → allB (fun k => !fitB A k z b) i = true → f_X11_isAsSeen_79 N n y (nI b) (nI z) (nI i) h = some (yb (nofit A z b), h)
  | 0, i, h1, h2, _ => by omega
  | n + 1, i, h1, h2, ha => by
    have h6 := hW.1.2.2.2.1
    show f_X11_isAsSeen_79_b N (f_X11_isAsSeen_79 N n) y _ _ _ h = _
    unfold f_X11_isAsSeen_79_b
    rw [ck_p m.1, mR_valley m, rq_s, ck_p (mK_valley m), mN_valley m, ck_p (by decide), hC.1 3 (by decide), ite_i (nI_leI (by omega) (by omega))]
    by_cases c : aC A 3 ≤ i
    · have e : i = aC A 3 := by omega
      subst e
      unfold nofit
      rw [if_pos c, ha]
      rfl
    · rw [if_neg c, m_isWithin m hC hW (by omega) hb hz, cl_s, ite_i yb0]
      by_cases f : fitB A i z b = true
      · rw [if_neg (by rw [f]; decide)]
        have : nofit A z b = false := allB_no (i := i) (by omega) (by simp [f])
        rw [this]
        rfl
      · have f : fitB A i z b = false := by simpa using f
        rw [if_pos f, bd_e, nI_1]
        exact m_fn m hC hW hb hz n (i + 1) (by omega) (by omega) (by unfold allB; rw [ha, f]; rfl)
theorem m_isAsSeen (hN : 100 ≤ N) (hT : WS A J S) (hJ : J < 2 ^ 30) {u : Nat → Nat} (ok : okU A u) {h : PH} (p : MA N h y A) (rS : RS (hI h (y + 37)) 0 S) (hw : WY h y u) (rR : RR h y 0 R) (wR : WR A R) {i : Nat} (hi : i < R.1) : ∃ h', f_X11_isAsSeen N y (nI i) h = some (yb (rkB A (sb A S u (R.2.2.1 i) 0) (sb A S u (R.2.2.1 i) 1) (sbs A S u (R.2.2.1 i)) (R.2.1 i) (R.2.2.2 i)), h') ∧ Ex (inM y) h h' := by
  have m := p.1
  have hW := p.2.2.1
  have h3 := hW.1.2.1
  have h4 := hW.1.2.2.2.2.1
  have h6 := hW.1.2.2.2.1
  have r8 := wR.1
  obtain ⟨w1, w2, w3⟩ := wR.2 i hi
  obtain ⟨c1, c2, c3⟩ := rR.2 i hi
  rw [show 8 * 0 + i = i by omega] at c1 c2 c3
  have hg := hW.2.2.2.2.2.2.1 _ w1
  have ji : inb (nI i) 40 := nI_ix (by omega) (by decide)
  have xi : ix (nI i) = i := ix_nI (by omega)
  have sg : hI h (y + 10) (R.2.1 i) = nI (aG A (R.2.1 i)) := p.2.1.2.2.2.2.2.1 _ w1
  unfold f_X11_isAsSeen rkB
  rw [ck_p m.1, mR_sight m, rq_s, mR_seenWho m, rq_s, ck_p (mK_seenWho m), mN_seenWho m, ck_p ji, ck_p (mK_sight m), mN_sight m, xi, c1, ck_p (nI_ix (by omega) (by decide)), ix_nI (by omega), sg, bd_e, ite_i (show nI (aG A (R.2.1 i)) = 2 ↔ aG A (R.2.1 i) = 2 from nI_eq (b := 2) (by omega) (by decide))]
  by_cases g2 : aG A (R.2.1 i) = 2
  · obtain ⟨h', r1, r2⟩ := m_signBy (N := N) hN hT hJ ok (f := R.2.2.1 i) (by omega) p rS hw
    have p' := p.ex r2 (fun z z1 z2 z3 => by unfold inM at z3; omega)
    have c3' : hI h' (y + 36) i = R.2.2.2 i := by rw [r2.2.2.2 _ (by unfold inM; omega)]; exact c3
    rw [if_pos g2, if_pos g2, mR_seenFlue m, rq_s, ck_p (mK_seenFlue m), mN_seenFlue m, ck_p ji, c2, r1, cl_s, ck_p p'.1.1, mR_seenSign p'.1, rq_s, ck_p (mK_seenSign p'.1), mN_seenSign p'.1, ck_p ji, c3']
    by_cases q : sbs A S u (R.2.2.1 i) = R.2.2.2 i
    · rw [if_pos q]
      exact ⟨h', by simp [q, yb], r2⟩
    · rw [if_neg q]
      exact ⟨h', by simp [q, yb], r2⟩
  · obtain ⟨h', r1, r2⟩ := m_smokeBy (N := N) (by omega) hT hJ ok (f := R.2.2.1 i) (b := aG A (R.2.1 i)) (by omega) (by omega) p rS hw
    have p' := p.ex r2 (fun z z1 z2 z3 => by unfold inM at z3; omega)
    have c3' : hI h' (y + 36) i = R.2.2.2 i := by rw [r2.2.2.2 _ (by unfold inM; omega)]; exact c3
    have ev : (if aG A (R.2.1 i) = 0 then sb A S u (R.2.2.1 i) 0 else sb A S u (R.2.2.1 i) 1) = sb A S u (R.2.2.1 i) (aG A (R.2.1 i)) := by
      rcases (show aG A (R.2.1 i) = 0 ∨ aG A (R.2.1 i) = 1 by omega) with e | e
      · rw [e, if_pos rfl]
      · rw [e, if_neg (by decide)]
    have sl := sb_le A S u (R.2.2.1 i) (aG A (R.2.1 i))
    rw [if_neg g2, if_neg g2, ev, mR_seenFlue m, rq_s, ck_p (mK_seenFlue m), mN_seenFlue m, ck_p ji, c2, r1, cl_s, ck_p p'.1.1, mR_seenSign p'.1, rq_s, ck_p (mK_seenSign p'.1), mN_seenSign p'.1, ck_p ji, c3']
    by_cases q : R.2.2.2 i = -1
    · rw [if_pos (show R.2.2.2 i < 0 by rw [q]; decide), if_pos q]
      exact ⟨h', m_fn p'.1 p'.2.1 hW (by omega) sl N 0 (by omega) (by omega) rfl, r2⟩
    · obtain ⟨k, hk, ek⟩ := w3.resolve_left q
      rw [if_neg (show ¬ R.2.2.2 i < 0 by rw [ek]; exact nI_pos (by omega)), if_neg q, rq_s, ck_p (mK_seenSign p'.1), mN_seenSign p'.1, ck_p ji, c3', ek, m_isWithin p'.1 p'.2.1 hW hk (by omega) sl, cl_s, ck_p yb_g, ix_nI (by omega)]
      exact ⟨h', rfl, r2⟩
theorem RR.ex {P : Nat → Prop} {h h' : PH} {sl : Nat} (e : Ex P h h') (hP : ∀ z, y + 33 ≤ z → z ≤ y + 36 → ¬ P z) (p : RR h y sl R) : RR h' y sl R := by
  unfold RR at p ⊢
  rw [e.2.2.2 (y + 33) (hP _ (by omega) (by omega)), e.2.2.2 (y + 34) (hP _ (by omega) (by omega)), e.2.2.2 (y + 35) (hP _ (by omega) (by omega)), e.2.2.2 (y + 36) (hP _ (by omega) (by omega))]
  exact p
theorem m_as2 (hN : 100 ≤ N) (hT : WS A J S) (hJ : J < 2 ^ 30) {u : Nat → Nat} (ok : okU A u) (wR : WR A R) : ∀ (n i : Nat) (h : PH), R.1 < n + i → i ≤ R.1 → MA N h y A → RS (hI h (y + 37)) 0 S → WY h y u → RR h y 0 R → allB (fun i => rkB A (sb A S u (R.2.2.1 i) 0) (sb A S u (R.2.2.1 i) 1) (sbs A S u (R.2.2.1 i)) (R.2.1 i) (R.2.2.2 i)) i = true → ∃ h', f_X11_isAllSeen_2 N n y (nI i) h = some (yb (okA A S R u), h') ∧ Ex (inM y) h h'
  | 0, i, h, h1, h2, _, _, _, _, _ => by omega
  | n + 1, i, h, h1, h2, p, rS, hw, rR, ha => by
    have m := p.1
    have r8 := wR.1
    show ∃ h', f_X11_isAllSeen_2_b N (f_X11_isAllSeen_2 N n) y _ h = _ ∧ _
    unfold f_X11_isAllSeen_2_b
    rw [ck_p m.1, mR_seens m, rq_s, ck_p (mK_seens m), mN_seens m, ck_p (by decide), rR.1, ite_i (nI_leI (by omega) (by omega))]
    by_cases c : R.1 ≤ i
    · have e : i = R.1 := by omega
      subst e
      unfold okA
      rw [if_pos c, ha]
      exact ⟨h, rfl, Ex.rf⟩
    · obtain ⟨g, r1, r2⟩ := m_isAsSeen (N := N) hN hT hJ ok p rS hw rR wR (i := i) (by omega)
      rw [if_neg c, r1, cl_s, ite_i yb0]
      by_cases q : rkB A (sb A S u (R.2.2.1 i) 0) (sb A S u (R.2.2.1 i) 1) (sbs A S u (R.2.2.1 i)) (R.2.1 i) (R.2.2.2 i) = true
      · rw [if_neg (by rw [q]; decide), bd_e, nI_1]
        obtain ⟨h', s1, s2⟩ := m_as2 hN hT hJ ok wR n (i + 1) g (by omega) (by omega) (p.ex r2 (fun z z1 z2 z3 => by unfold inM at z3; omega)) (rS.ex r2 (by unfold inM; omega)) (hw.ex r2 (by unfold inM; omega)) (rR.ex r2 (fun z z1 z2 z3 => by unfold inM at z3; omega)) (by unfold allB; rw [ha, q]; rfl)
        exact ⟨h', s1, r2.trans s2⟩
      · have q : rkB A (sb A S u (R.2.2.1 i) 0) (sb A S u (R.2.2.1 i) 1) (sbs A S u (R.2.2.1 i)) (R.2.1 i) (R.2.2.2 i) = false := by simpa using q
        have : okA A S R u = false := allB_no (i := i) (by omega) q
        rw [if_pos q, this]
        exact ⟨g, rfl, r2⟩
theorem m_isAllSeen (hN : 100 ≤ N) (hT : WS A J S) (hJ : J < 2 ^ 30) {u : Nat → Nat} (ok : okU A u) (wR : WR A R) {h : PH} (p : MA N h y A) (rS : RS (hI h (y + 37)) 0 S) (hw : WY h y u) (rR : RR h y 0 R) : ∃ h', f_X11_isAllSeen N y h = some (yb (okA A S R u), h') ∧ Ex (inM y) h h' := m_as2 hN hT hJ ok wR N 0 h (by have := wR.1; omega) (by omega) p rS hw rR rfl
theorem m_allH : ∀ H, H ≤ 4 → ((1 : Int32) <<< (nI H &&& 31)) - (1 : Int32) = nI (2 ^ H - 1) := by decide +kernel
theorem wf_all (hW : WV A) : bts (fun j => (2 ^ aC A 2 - 1).testBit j && decide (tL S j = 0)) (aC A 2) = noA A S := by
  unfold noA
  refine bts_cong (fun k hk => ?_)
  rw [Nat.testBit_two_pow_sub_one]
  simp [hk]
theorem noA_lt (hW : WV A) : noA A S < 16 := Nat.lt_of_lt_of_le (bts_lt _ _) (by
  have : (16 : Nat) = 2 ^ 4 := rfl
  rw [this]
  exact Nat.pow_le_pow_right (by decide) hW.1.2.2.1)
/-- what all ways so far always did -/
def ALw (h : PH) (y : Nat) (l : List (Nat → Nat)) : Prop := l ≠ [] → ∀ j, j < 4 → hI h (y + 46) j = nI (sN j l)
theorem m_lw32 (hW : WV A) {u : Nat → Nat} {l : List (Nat → Nat)} {X : Int32} (oku : okU A u) (okl : okL A l) (hl : l.length ≤ 5000) : ∀ (n i : Nat) (h : PH), 4 < n + i → i ≤ 4 → MD h y → WY h y u → (∀ j, j < i → hI h (y + 46) j = nI (sN j (u :: l))) → (l ≠ [] → ∀ j, i ≤ j → j < 4 → hI h (y + 46) j = nI (sN j l)) → ∃ g, (∀ K, f_X11_laysWays_32 N K n y X (nI l.length) (nI i) h = f_X11_laysWays_87 N K y X (nI (l.length + 1)) g) ∧ Ex (fun z => z = y + 46) h g ∧ ∀ j, j < 4 → hI g (y + 46) j = nI (sN j (u :: l))
  | 0, i, h, h1, h2, _, _, _, _ => by omega
  | n + 1, i, h, h1, h2, m, hw, ha, hb => by
    have h5 := hW.1.1
    have four : (4 : Int32) ≤ nI i ↔ 4 ≤ i := nI_leI (a := 4) (by decide) (by omega)
    have hd : ∀ K, f_X11_laysWays_32 N K (n + 1) y X (nI l.length) (nI i) h = f_X11_laysWays_32_b N K (f_X11_laysWays_32 N K n) y X (nI l.length) (nI i) h := fun K => rfl
    by_cases c : 4 ≤ i
    · refine ⟨h, fun K => ?_, Ex.rf, fun j hj => ha j (by omega)⟩
      rw [hd K]
      unfold f_X11_laysWays_32_b
      rw [ite_i four, if_pos c, bd_e, nI_1]
    · have oki := oku i (by omega)
      have ji : inb (nI i) 4 := nI_ix (by omega) (by decide)
      have xi : ix (nI i) = i := ix_nI (by omega)
      have wi : hI h (y + 42) i = nI (u i) := hw i (by omega)
      have put : ∀ v : Nat, sN i (u :: l) = v → ∃ g, (∀ K, f_X11_laysWays_77 N K (f_X11_laysWays_32 N K n) (nI v) (nI i) (y + 46) y X (nI l.length) (nI i) h = f_X11_laysWays_87 N K y X (nI (l.length + 1)) g) ∧ Ex (fun z => z = y + 46) h g ∧ ∀ j, j < 4 → hI g (y + 46) j = nI (sN j (u :: l)) := fun v hv => by
        have x1 : Ex (fun z => z = y + 46) h (sI h (y + 46) i (nI v)) := Ex.sI rfl
        obtain ⟨g, r1, r2, r3⟩ := m_lw32 hW oku okl hl n (i + 1) (sI h (y + 46) i (nI v)) (by omega) (by omega) (m.sm Sm.sI) (hw.ex x1 (by omega)) (fun j hj => by
          rw [hI_sI_eq]
          by_cases e : j = i
          · rw [e, va_eq, hv]
          · rw [va_ne e]; exact ha j (by omega)) (fun ne j j1 j2 => by rw [hI_sI_eq, va_ne (by omega)]; exact hb ne j (by omega) j2)
        refine ⟨g, fun K => ?_, x1.trans r2, r3⟩
        unfold f_X11_laysWays_77
        rw [ck_p (mK_always m), mN_always m, ck_p ji, xi, bd_e, bd_e, nI_1]
        exact r1 K
      have own : sN i (u :: l) = u i → ∃ g, (∀ K, f_X11_laysWays_65 N K (f_X11_laysWays_32 N K n) (nI i) (y + 46) y X (nI l.length) (nI i) h = f_X11_laysWays_87 N K y X (nI (l.length + 1)) g) ∧ Ex (fun z => z = y + 46) h g ∧ ∀ j, j < 4 → hI g (y + 46) j = nI (sN j (u :: l)) := fun hv => by
        obtain ⟨g, r1, r2, r3⟩ := put (u i) hv
        refine ⟨g, fun K => ?_, r2, r3⟩
        unfold f_X11_laysWays_65
        rw [ck_p m.1, mR_way m, rq_s, ck_p (mK_way m), mN_way m, ck_p ji, xi, wi]
        exact r1 K
      have top : (∃ g, (∀ K, (if l.length = 0 then f_X11_laysWays_65 N K (f_X11_laysWays_32 N K n) (nI i) (y + 46) y X (nI l.length) (nI i) h else if nI (sN i l) = nI (u i) then f_X11_laysWays_65 N K (f_X11_laysWays_32 N K n) (nI i) (y + 46) y X (nI l.length) (nI i) h else f_X11_laysWays_77 N K (f_X11_laysWays_32 N K n) (6 : Int32) (nI i) (y + 46) y X (nI l.length) (nI i) h) = f_X11_laysWays_87 N K y X (nI (l.length + 1)) g) ∧ Ex (fun z => z = y + 46) h g ∧ ∀ j, j < 4 → hI g (y + 46) j = nI (sN j (u :: l))) := by
        cases l with
        | nil =>
          obtain ⟨g, r1, r2, r3⟩ := own rfl
          exact ⟨g, fun K => by rw [if_pos (show ([] : List (Nat → Nat)).length = 0 from rfl)]; exact r1 K, r2, r3⟩
        | cons v l =>
          have si := sN_ok (A := A) (show i < 4 by omega) okl
          have es : sN i (u :: v :: l) = if sN i (v :: l) = u i then u i else 6 := rfl
          by_cases e : sN i (v :: l) = u i
          · obtain ⟨g, r1, r2, r3⟩ := own (by rw [es, if_pos e])
            exact ⟨g, fun K => by rw [if_neg (by simp), if_pos (by rw [e])]; exact r1 K, r2, r3⟩
          · obtain ⟨g, r1, r2, r3⟩ := put 6 (by rw [es, if_neg e])
            exact ⟨g, fun K => by rw [if_neg (by simp), if_neg (fun z => e ((nI_eq (by omega) (by omega)).mp z))]; exact r1 K, r2, r3⟩
      obtain ⟨g, r1, r2, r3⟩ := top
      refine ⟨g, fun K => ?_, r2, r3⟩
      rw [← r1 K, hd K]
      unfold f_X11_laysWays_32_b
      rw [ite_i four, if_neg c, ck_p m.1, mR_always m, rq_s, ite_i (show nI l.length = 0 ↔ l.length = 0 from nI_eq (b := 0) (by omega) (by decide))]
      by_cases z : l.length = 0
      · rw [if_pos z, if_pos z]
      · rw [if_neg z, if_neg z, rq_s, ck_p (mK_always m), mN_always m, ck_p ji, mR_way m, rq_s, ck_p (mK_way m), mN_way m, ck_p ji, xi, wi, hb (fun q => z (by rw [q]; rfl)) i (Nat.le_refl _) (by omega)]
/-- one way is counted, and the next one comes -/
theorem m_lwb (hN : 100 ≤ N) (hT : WS A J S) (hJ : J < 2 ^ 30) {X : Nat} (hX : X < 16) (hW : WV A) (wR : WR A R) (u : Nat → Nat) (l : List (Nat → Nat)) (h : PH) (oku : okU A u) (okl : okL A l) (hl : l.length ≤ 5000) (p : MA N h y A) (rS : RS (hI h (y + 37)) 0 S) (hw : WY h y u) (rR : RR h y 0 R) (hal : ALw h y l) : ∃ g, (∀ n, f_X11_laysWays_18 N (n + 1) y (nI X) (nI l.length) 1 h = f_X11_laysWays_18 N n y (nI X) (nI (if okA A S R u = true then u :: l else l).length) (yb (nf X (al A S) 4 u).1) g) ∧ Ex (lwP y) h g ∧ WY g y (nf X (al A S) 4 u).2 ∧ MA N g y A ∧ RS (hI g (y + 37)) 0 S ∧ RR g y 0 R ∧ ALw g y (if okA A S R u = true then u :: l else l) := by
  have m := p.1
  have h5 := hW.1.1
  obtain ⟨g1, r1, r2⟩ := m_isAllSeen (N := N) hN hT hJ oku wR p rS hw rR
  have p1 := p.ex r2 (fun z z1 z2 z3 => by unfold inM at z3; omega)
  have rS1 := rS.ex r2 (by unfold inM; omega)
  have w1 : WY g1 y u := hw.ex r2 (by unfold inM; omega)
  have rR1 : RR g1 y 0 R := rR.ex r2 (fun z z1 z2 z3 => by unfold inM at z3; omega)
  have al1 : ALw g1 y l := fun ne j hj => by rw [r2.2.2.2 _ (by unfold inM; omega)]; exact hal ne j hj
  have step : ∀ n, f_X11_laysWays_18 N (n + 1) y (nI X) (nI l.length) 1 h = if yb (okA A S R u) = 0 then f_X11_laysWays_87 N (f_X11_laysWays_18 N n) y (nI X) (nI l.length) g1 else f_X11_laysWays_32 N (f_X11_laysWays_18 N n) N y (nI X) (nI l.length) (0 : Int32) g1 := fun n => by
    show f_X11_laysWays_18_b N (f_X11_laysWays_18 N n) y _ _ _ h = _
    unfold f_X11_laysWays_18_b
    rw [if_neg one0, ck_p m.1, r1, cl_s]
  -- behind the count
  have nxt : ∀ (l' : List (Nat → Nat)) (g2 : PH), Ex (fun z => z = y + 46) g1 g2 → ALw g2 y l' → (∀ n, f_X11_laysWays_18 N (n + 1) y (nI X) (nI l.length) 1 h = f_X11_laysWays_87 N (f_X11_laysWays_18 N n) y (nI X) (nI l'.length) g2) → ∃ g, (∀ n, f_X11_laysWays_18 N (n + 1) y (nI X) (nI l.length) 1 h = f_X11_laysWays_18 N n y (nI X) (nI l'.length) (yb (nf X (al A S) 4 u).1) g) ∧ Ex (lwP y) h g ∧ WY g y (nf X (al A S) 4 u).2 ∧ MA N g y A ∧ RS (hI g (y + 37)) 0 S ∧ RR g y 0 R ∧ ALw g y l' := fun l' g2 e2 al2 hs => by
    have p2 := p1.ex e2 (fun z z1 z2 z3 => by omega)
    have rS2 := rS1.ex e2 (by omega)
    have w2 : WY g2 y u := w1.ex e2 (by omega)
    obtain ⟨g3, s1, s2, s3⟩ := m_nextWay (N := N) (by omega) hW hT hX p2.1 p2.2.1 rS2 w2 (fun j hj => by have := oku j hj; omega)
    refine ⟨g3, fun n => ?_, ((Ex.mono (Q := lwP y) r2 (fun z hz => Or.inr (Or.inr (Or.inr hz)))).trans (Ex.mono (Q := lwP y) e2 (fun z hz => Or.inr (Or.inl hz)))).trans (Ex.mono (Q := lwP y) s2 (fun z hz => Or.inl hz)), s3, p2.ex s2 (fun z z1 z2 z3 => by omega), rS2.ex s2 (by omega), (rR1.ex e2 (fun z z1 z2 z3 => by omega)).ex s2 (fun z z1 z2 z3 => by omega), fun ne j hj => by rw [s2.2.2.2 _ (by omega)]; exact al2 ne j hj⟩
    rw [hs n]
    unfold f_X11_laysWays_87
    rw [ck_p p2.1.1, s1, cl_s]
  by_cases o : okA A S R u = true
  · rw [if_pos o]
    obtain ⟨g2, q1, q2, q3⟩ : ∃ g2, (∀ n, f_X11_laysWays_32 N (f_X11_laysWays_18 N n) N y (nI X) (nI l.length) (0 : Int32) g1 = f_X11_laysWays_87 N (f_X11_laysWays_18 N n) y (nI X) (nI (l.length + 1)) g2) ∧ Ex (fun z => z = y + 46) g1 g2 ∧ ∀ j, j < 4 → hI g2 (y + 46) j = nI (sN j (u :: l)) := by
      obtain ⟨g2, q1, q2, q3⟩ := m_lw32 (N := N) hW (X := nI X) oku okl hl N 0 g1 (by omega) (by omega) p1.1 w1 (fun j hj => absurd hj (Nat.not_lt_zero j)) (fun ne j _ hj => al1 ne j hj)
      exact ⟨g2, fun n => q1 (f_X11_laysWays_18 N n), q2, q3⟩
    exact nxt (u :: l) g2 q2 (fun _ j hj => q3 j hj) (fun n => by rw [step n, if_neg (by rw [o]; decide), q1 n]; rfl)
  · rw [if_neg o]
    exact nxt l g1 Ex.rf al1 (fun n => by rw [step n, if_pos (show yb (okA A S R u) = 0 by rw [show okA A S R u = false by simpa using o]; rfl)])
theorem m_allHouses {h : PH} (m : MD h y) (hC : MV h y A) (hW : WV A) : f_X11_allHouses N y h = some (nI (2 ^ aC A 2 - 1), h) := by
  unfold f_X11_allHouses
  rw [ck_p m.1, mR_valley m, rq_s, ck_p (mK_valley m), mN_valley m, ck_p (by decide), hC.1 2 (by decide), m_allH _ hW.1.2.2.1]
theorem p2_lt (hW : WV A) : 2 ^ aC A 2 - 1 < 16 := by
  have : 2 ^ aC A 2 ≤ 2 ^ 4 := Nat.pow_le_pow_right (by decide) hW.1.2.2.1
  have e : (2 : Nat) ^ 4 = 16 := rfl
  omega
theorem GWc (A : AV) (S : AS) : ∃ l, ws (noA A S) (al A S) 4 0 u5 = hdw (noA A S) (al A S) 0 u5 :: l ∧ Chn (nf (noA A S) (al A S) 4) (fun e => (nf (noA A S) (al A S) 4 e).1 = false) (hdw (noA A S) (al A S) 0 u5 :: l) := by
  obtain ⟨⟨l, e⟩, c⟩ := ws_chn (X := noA A S) (p := al A S) (al5 A S) 4 0 u5 rfl
  refine ⟨l, e, ?_⟩
  rw [e] at c
  exact c.mono (fun z hz => by rw [hz]; rfl)
theorem okL_if (o : Bool) {u : Nat → Nat} {l : List (Nat → Nat)} (hu : okU A u) (hl : okL A l) : okL A (if o = true then u :: l else l) := by
  cases o
  · exact hl
  · intro z hz
    rcases List.mem_cons.mp hz with e | e
    · rw [e]; exact hu
    · exact hl z e
theorem len_if (o : Bool) (u : Nat → Nat) (l : List (Nat → Nat)) : (if o = true then u :: l else l).length ≤ l.length + 1 := by
  cases o
  · exact Nat.le_succ _
  · exact Nat.le_refl _
theorem m_lw (hN : 100 ≤ N) (hT : WS A J S) (hJ : J < 2 ^ 30) {X : Nat} (hX : X < 16) (hW : WV A) (wR : WR A R) : ∀ (L : List (Nat → Nat)) (u : Nat → Nat) (l : List (Nat → Nat)) (n : Nat) (h : PH), Chn (nf X (al A S) 4) (fun e => (nf X (al A S) 4 e).1 = false) (u :: L) → L.length + 1 < n → okL A (u :: L) → okL A l → l.length + L.length ≤ 4000 → MA N h y A → RS (hI h (y + 37)) 0 S → WY h y u → RR h y 0 R → ALw h y l → ∃ h', f_X11_laysWays_18 N n y (nI X) (nI l.length) 1 h = some (nI (takeL (okA A S R) (u :: L) l).length, h') ∧ Ex (lwP y) h h' ∧ MA N h' y A ∧ RS (hI h' (y + 37)) 0 S ∧ RR h' y 0 R ∧ ALw h' y (takeL (okA A S R) (u :: L) l)
  | [], u, l, n, h, hc, hn, ok, okl, hl, p, rS, hw, rR, hal => by
    obtain ⟨n, rfl⟩ : ∃ k, n = k + 1 + 1 := ⟨n - 2, by rw [List.length_nil] at hn; omega⟩
    obtain ⟨g, g1, g2, g3, g4, g5, g6, g7⟩ := m_lwb hN hT hJ hX hW wR u l h (ok u List.mem_cons_self) okl (by omega) p rS hw rR hal
    have hc : (nf X (al A S) 4 u).1 = false := hc
    rw [hc] at g1
    refine ⟨g, ?_, g2, g4, g5, g6, g7⟩
    rw [g1 (n + 1)]
    show f_X11_laysWays_18_b N (f_X11_laysWays_18 N n) y _ _ _ g = _
    unfold f_X11_laysWays_18_b
    rw [if_pos (show yb false = 0 from rfl)]
    rfl
  | v :: L, u, l, n, h, hc, hn, ok, okl, hl, p, rS, hw, rR, hal => by
    obtain ⟨n, rfl⟩ : ∃ k, n = k + 1 := ⟨n - 1, by omega⟩
    rw [List.length_cons] at hn hl
    obtain ⟨g, g1, g2, g3, g4, g5, g6, g7⟩ := m_lwb hN hT hJ hX hW wR u l h (ok u List.mem_cons_self) okl (by omega) p rS hw rR hal
    have hc1 : nf X (al A S) 4 u = (true, v) := hc.1
    rw [hc1] at g1 g3
    have li := len_if (okA A S R u) u l
    obtain ⟨h', t1, t2, t3, t4, t5, t6⟩ := m_lw hN hT hJ hX hW wR L v (if okA A S R u = true then u :: l else l) n g hc.2 (by omega) (fun z hz => ok z (List.mem_cons_of_mem _ hz)) (okL_if _ (ok u List.mem_cons_self) okl) (by omega) g4 g5 g3 g6 g7
    exact ⟨h', by rw [g1 n]; exact t1, g2.trans t2, t3, t4, t5, t6⟩
theorem m_laysWays (hN : 5000 ≤ N) (hT : WS A J S) (hJ : J < 2 ^ 30) (wR : WR A R) {h : PH} (p : MA N h y A) (rS : RS (hI h (y + 37)) 0 S) (rR : RR h y 0 R) : ∃ h', f_X11_laysWays N y h = some (nI (GL A S R).length, h') ∧ Ex (lwP y) h h' ∧ MA N h' y A ∧ RS (hI h' (y + 37)) 0 S ∧ RR h' y 0 R ∧ ALw h' y (GL A S R) := by
  have m := p.1
  have hW := p.2.2.1
  have na := noA_lt (S := S) hW
  obtain ⟨l, el, cl⟩ := GWc A S
  have ll := ws_len (X := noA A S) (p := al A S) 4 0 u5
  have lo : okL A (ws (noA A S) (al A S) 4 0 u5) := ws_ok hW 4 0 _ rfl (fun j _ => Or.inl rfl)
  have e6 : (6 : Nat) ^ 4 = 1296 := rfl
  obtain ⟨g, r1, r2, r3⟩ := m_firstWay (N := N) (by omega) m p.2.1 hW rS hT na
  have pg := p.ex r2 (fun z z1 z2 z3 => by omega)
  have gl : GL A S R = takeL (okA A S R) (hdw (noA A S) (al A S) 0 u5 :: l) [] := by unfold GL; rw [el]
  rw [el] at ll lo
  rw [List.length_cons] at ll
  obtain ⟨h', t1, t2, t3⟩ := m_lw (N := N) (by omega) hT hJ na hW wR l _ [] N g cl (by omega) lo (fun z hz => absurd hz (by simp)) (by rw [List.length_nil]; omega) pg (rS.ex r2 (by omega)) r3 (rR.ex r2 (fun z z1 z2 z3 => by omega)) (fun ne => absurd rfl ne)
  rw [gl]
  refine ⟨h', ?_, (Ex.mono (Q := lwP y) r2 (fun z hz => Or.inl hz)).trans t2, t3⟩
  unfold f_X11_laysWays
  rw [ck_p m.1, m_allHouses m p.2.1 hW, cl_s, ck_p m.1, m_withoutFire (by omega) m p.2.1 hW rS hT (p2_lt hW), cl_s, wf_all hW, ck_p m.1, r1, cl_s]
  exact t1
end SE
