/-! The duty of spell, the class's side: by what shows the second sign is read. -/
def RCq (x : Nat) (R : Nat → Nat) (h : PH) : Prop := ∀ k, k < 1331 → hI h (x + 31 + 9) k = nI (R k) ∧ R k < 2 ^ 11
/-- show t behind shows k is noted, from place i on, behind shows a with these sums -/
def nbP (A : AV) (S : AS) (V : Nat) (w : Int32) (sh : Nat → Nat) : Nat → Nat → Nat → Nat → Nat → Nat → Nat → Prop
  | 0, i, a, d, s, k, t => k = a ∧ (sh i).testBit t = true ∧ aSign A (min (d + dkP A S V i t 0) 999) (min (s + dkP A S V i t 1) 999) = w
  | m + 1, i, a, d, s, k, t => ∃ q, (sh i).testBit q = true ∧ nbP A S V w sh m (i + 1) (11 * a + q) (d + dkP A S V i q 0) (s + dkP A S V i q 1) k t
/-- what noting looks at -/
def NSq (A : AV) (S : AS) (V x v : Nat) (w : Int32) (sh R : Nat → Nat) (h : PH) : Prop := SB A S x v h ∧ PA A S V x 4 sh h ∧ hI h (x + 31) 13 = w ∧ RCq x R h
def atS (s : Nat → Nat) : Nat → Nat
  | 0 => 0
  | n + 1 => 11 * atS s n + s n
/-- all is noted -/
def TBq (A : AV) (S : AS) (f : Nat) (w : Int32) (x : Nat) (h : PH) : Prop := ∃ sh R : Nat → Nat, PA A S (aHs A f) x 4 sh h ∧ RCq x R h ∧ ∀ s, (∀ p, p < 4 → (sh p).testBit (s p) = true) → ((R (atS s 3)).testBit (s 3) = true ↔ Sg A S f w s)
section SPD1
variable {N x v J i : Nat} {A : AV} {S : AS} {V : Nat} {w : Int32} {sh : Nat → Nat}
theorem PA.ex {P : Nat → Prop} {h h' : PH} {n : Nat} (e : Ex P h h') (hP : ∀ z, P z → z < x + 35 ∨ x + 40 ≤ z) (p : PA A S V x n sh h) : PA A S V x n sh h' := fun k hk => by
  obtain ⟨q1, q2, q3, q4⟩ := p k hk
  have e4 : hI h' (x + 31 + 4) = hI h (x + 31 + 4) := e.2.2.2 _ (fun z => by have := hP _ z; omega)
  have e5 : hI h' (x + 31 + 5) = hI h (x + 31 + 5) := e.2.2.2 _ (fun z => by have := hP _ z; omega)
  have e6 : hI h' (x + 31 + 6) = hI h (x + 31 + 6) := e.2.2.2 _ (fun z => by have := hP _ z; omega)
  have e7 : hI h' (x + 31 + 7) = hI h (x + 31 + 7) := e.2.2.2 _ (fun z => by have := hP _ z; omega)
  have e8 : hI h' (x + 31 + 8) = hI h (x + 31 + 8) := e.2.2.2 _ (fun z => by have := hP _ z; omega)
  refine ⟨by rw [e7, e8]; exact q1, by rw [e4]; exact q2, q3, fun s hs => ?_⟩
  unfold DK
  rw [e5, e6]
  exact q4 s hs
theorem NSq.rd {h h' : PH} {R R' : Nat → Nat} (hv : x + 43 ≤ v) (e : Ex (fun z => z = x + 31 + 9) h h') (r : RCq x R' h') (p : NSq A S V x v w sh R h) : NSq A S V x v w sh R' h' := ⟨p.1.own hv e (fun z hz => by omega), p.2.1.ex e (fun z hz => by omega), by rw [e.2.2.2 _ (by omega)]; exact p.2.2.1, r⟩
theorem c_n3 (hB : 2000 ≤ N) (hv : x + 43 ≤ v) (hi : i = 3) {RR : Nat → Int32 → Int32 → Int32 → Int32 → PH → Option (Unit × PH)} {a d s : Nat} (ha : a < 1331) (hd : d ≤ 10000) (hs : s ≤ 10000) : ∀ (n e : Nat) (R : Nat → Nat) (h : PH), 11 < n + e → e ≤ 11 → NSq A S V x v w sh R h → ∃ h' R', f_X3_note_3 RR N n (x + 31) (nI i) (nI a) (nI d) (nI s) (nI e) h = some ((), h') ∧ Ex (fun z => z = x + 31 + 9) h h' ∧ RCq x R' h' ∧ ∀ k t, (R' k).testBit t = true ↔ ((R k).testBit t = true ∨ (e ≤ t ∧ nbP A S V w sh 0 i a d s k t))
  | 0, e, R, h, h1, h2, _ => by omega
  | n + 1, e, R, h, h1, h2, ns => by
    obtain ⟨sb, pa, q13, rc⟩ := id ns
    obtain ⟨sp, ⟨r9, r10⟩, pv, hS, hC⟩ := id sb
    have hW := pv.2.2.1
    obtain ⟨-, p4, pl, pd⟩ := pa i (by omega)
    have xi : ix (nI i) = i := ix_nI (by omega)
    show ∃ h' R', f_X3_note_3_b RR N (f_X3_note_3 RR N n) (x + 31) _ _ _ _ _ h = _ ∧ _
    unfold f_X3_note_3_b f_X3_note_114
    rw [ite_i (show (11 : Int32) ≤ nI e ↔ 11 ≤ e from nI_leI (a := 11) (by decide) (by omega))]
    by_cases c : 11 ≤ e
    · rw [if_pos c]
      refine ⟨h, R, rfl, Ex.rf, rc, fun k t => ⟨Or.inl, fun z => ?_⟩⟩
      rcases z with z | ⟨z1, -, z2, -⟩
      · exact z
      · have := tb_lt pl z2
        omega
    rw [if_neg c, ck_p sp.1, pR_shows sp, rq_s, ck_p (pK_shows sp), pN_shows sp, ck_p (nI_ix (by omega) (by decide)), xi, p4, ite_i (bitI (Nat.lt_trans pl (by decide)) (show e < 32 by omega))]
    have skip : ∀ (R1 : Nat → Nat) (h1 : PH), Ex (fun z => z = x + 31 + 9) h h1 → RCq x R1 h1 → (∀ k t, (R1 k).testBit t = true ↔ ((R k).testBit t = true ∨ (e = t ∧ nbP A S V w sh 0 i a d s k t))) → ∃ h' R', f_X3_note_3 RR N n (x + 31) (nI i) (nI a) (nI d) (nI s) (nI (e + 1)) h1 = some ((), h') ∧ Ex (fun z => z = x + 31 + 9) h h' ∧ RCq x R' h' ∧ ∀ k t, (R' k).testBit t = true ↔ ((R k).testBit t = true ∨ (e ≤ t ∧ nbP A S V w sh 0 i a d s k t)) := fun R1 h1 E1 rc1 b1 => by
      obtain ⟨h', R', t1, t2, t3, t4⟩ := c_n3 hB hv hi ha hd hs n (e + 1) R1 h1 (by omega) (by omega) (ns.rd hv E1 rc1)
      refine ⟨h', R', t1, E1.trans t2, t3, fun k t => ?_⟩
      rw [t4, b1]
      constructor
      · rintro ((z | ⟨z1, z2⟩) | ⟨z1, z2⟩)
        · exact Or.inl z
        · exact Or.inr ⟨by omega, z2⟩
        · exact Or.inr ⟨by omega, z2⟩
      · rintro (z | ⟨z1, z2⟩)
        · exact Or.inl (Or.inl z)
        · by_cases y : e = t
          · exact Or.inl (Or.inr ⟨y, z2⟩)
          · exact Or.inr ⟨by omega, z2⟩
    have no : ¬ nbP A S V w sh 0 i a d s a e → ∃ h' R', f_X3_note_3 RR N n (x + 31) (nI i) (nI a) (nI d) (nI s) (nI (e + 1)) h = some ((), h') ∧ Ex (fun z => z = x + 31 + 9) h h' ∧ RCq x R' h' ∧ ∀ k t, (R' k).testBit t = true ↔ ((R k).testBit t = true ∨ (e ≤ t ∧ nbP A S V w sh 0 i a d s k t)) := fun nn => skip R h Ex.rf rc (fun k t => ⟨Or.inl, fun z => by
      rcases z with z | ⟨rfl, z⟩
      · exact z
      · refine absurd ?_ nn
        have ek : k = a := z.1
        rw [ek] at z
        exact z⟩)
    by_cases t : (sh i).testBit e = false
    · rw [if_pos t, bd_e, nI_1]
      exact no (fun z => by
        have z2 : (sh i).testBit e = true := z.2.1
        rw [t] at z2
        cases z2)
    have t' : (sh i).testBit e = true := by simpa using t
    have dk := pd e t'
    have l0 := dkP_le (S := S) hW V i e 0
    have l1 := dkP_le (S := S) hW V i e 1
    have l44 : inb (nI (11 * i + e)) 44 := nI_ix (by omega) (by decide)
    have x44 : ix (nI (11 * i + e)) = 11 * i + e := ix_nI (by omega)
    rw [if_neg t, pR_dk2 sp, rq_s, ck_p (pK_dk2 sp), pN_dk2 sp, ix11, ck_p l44, x44, dk.1, nI_add, bd_e, pR_sw2 sp, rq_s, ck_p (pK_sw2 sp), pN_sw2 sp, ck_p l44, dk.2, nI_add, bd_e, if_pos (show (3 : Int32) ≤ nI i by rw [hi]; decide), r9, rq_s, ck_p pv.1.1, c_signOf (by omega) pv.1 pv.2.1 hW (by omega) (by omega), cl_s, ck_p sp.1, q13]
    by_cases g : aSign A (min (d + dkP A S V i e 0) 999) (min (s + dkP A S V i e 1) 999) = w
    · have a1331 : inb (nI a) 1331 := nI_ix ha (by decide)
      have xa : ix (nI a) = a := ix_nI (by omega)
      have ra := rc a ha
      have E1 : Ex (fun z => z = x + 31 + 9) h (sI h (x + 31 + 9) a (nI (R a ||| 2 ^ e))) := Ex.sI rfl
      have f9 : hI (sI h (x + 31 + 9) a (nI (R a ||| 2 ^ e))) (x + 31 + 9) = va_up (hI h (x + 31 + 9)) a (nI (R a ||| 2 ^ e)) := hI_sI_eq
      rw [if_pos g, pR_rdg sp, rq_s, ck_p (pK_rdg sp), pN_rdg sp, ck_p a1331, xa, ra.1, sh12 e (by omega), nI_or, bd_e, bd_e, nI_1]
      refine skip (va_up R a (R a ||| 2 ^ e)) _ E1 (fun k hk => ?_) (fun k t => ?_)
      · rw [f9]
        by_cases z : k = a
        · rw [z, va_eq, va_eq]
          exact ⟨rfl, or_lt ra.2 (Nat.pow_lt_pow_right (by decide) (by omega))⟩
        · rw [va_ne z, va_ne z]
          exact rc k hk
      · by_cases z : k = a
        · rw [z, va_eq, fb_bit_set, Bool.or_eq_true, decide_eq_true_eq]
          constructor
          · rintro (y | y)
            · exact Or.inl y
            · exact Or.inr ⟨y.symm, rfl, by rw [y]; exact t', by rw [y]; exact g⟩
          · rintro (y | ⟨y, -⟩)
            · exact Or.inl y
            · exact Or.inr y.symm
        · rw [va_ne z]
          exact ⟨Or.inl, fun y => by
            rcases y with y | ⟨-, y, -⟩
            · exact y
            · exact absurd y z⟩
    · rw [if_neg g, bd_e, nI_1]
      exact no (fun z => g z.2.2)
theorem c_ni (hB : 2000 ≤ N) (hv : x + 43 ≤ v) (hi : i < 3) {RR : Nat → Int32 → Int32 → Int32 → Int32 → PH → Option (Unit × PH)} {m a d s : Nat} (ha : a < 11 ^ i) (hd : d ≤ i * 999) (hs : s ≤ i * 999)
    (hR : ∀ a' d' s' R h, a' < 11 ^ (i + 1) → d' ≤ (i + 1) * 999 → s' ≤ (i + 1) * 999 → NSq A S V x v w sh R h → ∃ h' R', RR (x + 31) (nI (i + 1)) (nI a') (nI d') (nI s') h = some ((), h') ∧ Ex (fun z => z = x + 31 + 9) h h' ∧ RCq x R' h' ∧ ∀ k t, (R' k).testBit t = true ↔ ((R k).testBit t = true ∨ nbP A S V w sh m (i + 1) a' d' s' k t)) :
    ∀ (n e : Nat) (R : Nat → Nat) (h : PH), 11 < n + e → e ≤ 11 → NSq A S V x v w sh R h → ∃ h' R', f_X3_note_3 RR N n (x + 31) (nI i) (nI a) (nI d) (nI s) (nI e) h = some ((), h') ∧ Ex (fun z => z = x + 31 + 9) h h' ∧ RCq x R' h' ∧ ∀ k t, (R' k).testBit t = true ↔ ((R k).testBit t = true ∨ ∃ q, e ≤ q ∧ (sh i).testBit q = true ∧ nbP A S V w sh m (i + 1) (11 * a + q) (d + dkP A S V i q 0) (s + dkP A S V i q 1) k t)
  | 0, e, R, h, h1, h2, _ => by omega
  | n + 1, e, R, h, h1, h2, ns => by
    obtain ⟨sb, pa, q13, rc⟩ := id ns
    obtain ⟨sp, ⟨r9, r10⟩, pv, hS, hC⟩ := id sb
    have hW := pv.2.2.1
    obtain ⟨-, p4, pl, pd⟩ := pa i (by omega)
    have xi : ix (nI i) = i := ix_nI (by omega)
    show ∃ h' R', f_X3_note_3_b RR N (f_X3_note_3 RR N n) (x + 31) _ _ _ _ _ h = _ ∧ _
    unfold f_X3_note_3_b f_X3_note_114
    rw [ite_i (show (11 : Int32) ≤ nI e ↔ 11 ≤ e from nI_leI (a := 11) (by decide) (by omega))]
    by_cases c : 11 ≤ e
    · rw [if_pos c]
      refine ⟨h, R, rfl, Ex.rf, rc, fun k t => ⟨Or.inl, fun z => ?_⟩⟩
      rcases z with z | ⟨q, z1, z2, -⟩
      · exact z
      · have := tb_lt pl z2
        omega
    rw [if_neg c, ck_p sp.1, pR_shows sp, rq_s, ck_p (pK_shows sp), pN_shows sp, ck_p (nI_ix (by omega) (by decide)), xi, p4, ite_i (bitI (Nat.lt_trans pl (by decide)) (show e < 32 by omega))]
    by_cases t : (sh i).testBit e = false
    · rw [if_pos t, bd_e, nI_1]
      obtain ⟨h', R', t1, t2, t3, t4⟩ := c_ni hB hv hi ha hd hs hR n (e + 1) R h (by omega) (by omega) ns
      refine ⟨h', R', t1, t2, t3, fun k t5 => ?_⟩
      rw [t4]
      constructor
      · rintro (z | ⟨q, z1, z2⟩)
        · exact Or.inl z
        · exact Or.inr ⟨q, by omega, z2⟩
      · rintro (z | ⟨q, z1, z2⟩)
        · exact Or.inl z
        · refine Or.inr ⟨q, ?_, z2⟩
          by_cases y : e = q
          · rw [← y, t] at z2
            exact absurd z2.1 (by decide)
          · omega
    have t' : (sh i).testBit e = true := by simpa using t
    have dk := pd e t'
    have l0 := dkP_le (S := S) hW V i e 0
    have l1 := dkP_le (S := S) hW V i e 1
    have l44 : inb (nI (11 * i + e)) 44 := nI_ix (by omega) (by decide)
    have x44 : ix (nI (11 * i + e)) = 11 * i + e := ix_nI (by omega)
    have ps : (11 : Nat) ^ (i + 1) = 11 ^ i * 11 := Nat.pow_succ 11 i
    obtain ⟨ha1, R1, a1, a2, a3, a4⟩ := hR (11 * a + e) (d + dkP A S V i e 0) (s + dkP A S V i e 1) R h (by omega) (by omega) (by omega) ns
    rw [if_neg t, pR_dk2 sp, rq_s, ck_p (pK_dk2 sp), pN_dk2 sp, ix11, ck_p l44, x44, dk.1, nI_add, bd_e, pR_sw2 sp, rq_s, ck_p (pK_sw2 sp), pN_sw2 sp, ck_p l44, dk.2, nI_add, bd_e, if_neg (show ¬ (3 : Int32) ≤ nI i from fun z => by
      have := (show (3 : Int32) ≤ nI i ↔ 3 ≤ i from nI_leI (a := 3) (by decide) (by omega)).mp z
      omega), ix11, nI_1, a1, cl_s, bd_e, nI_1]
    obtain ⟨h', R', t1, t2, t3, t4⟩ := c_ni hB hv hi ha hd hs hR n (e + 1) R1 ha1 (by omega) (by omega) (ns.rd hv a2 a3)
    refine ⟨h', R', t1, a2.trans t2, t3, fun k t5 => ?_⟩
    rw [t4, a4]
    constructor
    · rintro ((z | z) | ⟨q, z1, z2⟩)
      · exact Or.inl z
      · exact Or.inr ⟨e, Nat.le_refl e, t', z⟩
      · exact Or.inr ⟨q, by omega, z2⟩
    · rintro (z | ⟨q, z1, z2⟩)
      · exact Or.inl (Or.inl z)
      · by_cases y : e = q
        · rw [← y] at z2
          exact Or.inl (Or.inr z2.2)
        · exact Or.inr ⟨q, by omega, z2⟩
theorem c_note (hB : 2000 ≤ N) (hv : x + 43 ≤ v) : ∀ (m i d0 a d s : Nat) (R : Nat → Nat) (h : PH), m + i = 3 → m < d0 → a < 11 ^ i → d ≤ i * 999 → s ≤ i * 999 → NSq A S V x v w sh R h → ∃ h' R', f_X3_note d0 N (x + 31) (nI i) (nI a) (nI d) (nI s) h = some ((), h') ∧ Ex (fun z => z = x + 31 + 9) h h' ∧ RCq x R' h' ∧ ∀ k t, (R' k).testBit t = true ↔ ((R k).testBit t = true ∨ nbP A S V w sh m i a d s k t)
  | 0, i, d0, a, d, s, R, h, hm, hd0, ha, hd, hs, ns => by
    obtain ⟨d', rfl⟩ : ∃ d', d0 = d' + 1 := ⟨d0 - 1, by omega⟩
    have ei : i = 3 := by omega
    have e3 : (11 : Nat) ^ 3 = 1331 := rfl
    rw [ei, e3] at ha
    rw [ei] at hd hs
    obtain ⟨h', R', t1, t2, t3, t4⟩ := c_n3 (N := N) (i := i) (d := d) (s := s) (RR := f_X3_note d' N) hB hv ei ha (by omega) (by omega) N 0 R h (by omega) (by omega) ns
    refine ⟨h', R', t1, t2, t3, fun k t => ?_⟩
    rw [t4]
    exact ⟨fun z => z.imp id (fun y => y.2), fun z => z.imp id (fun y => ⟨Nat.zero_le _, y⟩)⟩
  | m + 1, i, d0, a, d, s, R, h, hm, hd0, ha, hd, hs, ns => by
    obtain ⟨d', rfl⟩ : ∃ d', d0 = d' + 1 := ⟨d0 - 1, by omega⟩
    obtain ⟨h', R', t1, t2, t3, t4⟩ := c_ni (N := N) (i := i) (RR := f_X3_note d' N) hB hv (by omega) ha hd hs (fun a' d1 s' R h k1 k2 k3 k4 => c_note hB hv m (i + 1) d' a' d1 s' R h (by omega) (by omega) k1 k2 k3 k4) N 0 R h (by omega) (by omega) ns
    refine ⟨h', R', t1, t2, t3, fun k t => ?_⟩
    rw [t4]
    exact ⟨fun z => z.imp id (fun ⟨q, q1, q2⟩ => ⟨q, q2⟩), fun z => z.imp id (fun ⟨q, q2⟩ => ⟨q, Nat.zero_le _, q2⟩)⟩
theorem nb_fin {f : Nat} {s : Nat → Nat} (hl : ∀ p, p < 4 → sh p < 2 ^ 11) (hs : ∀ p, p < 4 → (sh p).testBit (s p) = true) : nbP A S (aHs A f) w sh 3 0 0 0 0 (atS s 3) (s 3) ↔ Sg A S f w s := by
  have lt : ∀ p, p < 4 → ∀ q, (sh p).testBit q = true → q < 11 := fun p hp q hq => tb_lt (hl p hp) hq
  have a0 := lt 0 (by decide) _ (hs 0 (by decide))
  have a1 := lt 1 (by decide) _ (hs 1 (by decide))
  have a2 := lt 2 (by decide) _ (hs 2 (by decide))
  constructor
  · rintro ⟨q0, h0, q1, h1, q2, h2, e, h3, sg⟩
    have b0 := lt 0 (by decide) _ h0
    have b1 := lt 1 (by decide) _ h1
    have b2 := lt 2 (by decide) _ h2
    have e : 11 * (11 * (11 * 0 + s 0) + s 1) + s 2 = 11 * (11 * (11 * 0 + q0) + q1) + q2 := e
    have e0 : q0 = s 0 := by omega
    have e1 : q1 = s 1 := by omega
    have e2 : q2 = s 2 := by omega
    subst e0 e1 e2
    exact sg
  · intro sg
    exact ⟨s 0, hs 0 (by decide), s 1, hs 1 (by decide), s 2, hs 2 (by decide), rfl, hs 3 (by decide), sg⟩
end SPD1
