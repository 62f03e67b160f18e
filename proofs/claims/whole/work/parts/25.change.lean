/-! What changes a state, on the class's side: light, hand, pass. -/
/-- h' is h but for the int rows of P -/
def Ex (P : Nat → Prop) (h h' : PH) : Prop := Sm h h' ∧ hz h' = hz h ∧ hJ h' = hJ h ∧ ∀ z, ¬ P z → hI h' z = hI h z
theorem Ex.rf {P : Nat → Prop} {h : PH} : Ex P h h := ⟨Sm.rfl', rfl, rfl, fun _ _ => rfl⟩
theorem Ex.trans {P : Nat → Prop} {h h1 h2 : PH} (p : Ex P h h1) (q : Ex P h1 h2) : Ex P h h2 := ⟨p.1.trans q.1, q.2.1.trans p.2.1, q.2.2.1.trans p.2.2.1, fun z hz => (q.2.2.2 z hz).trans (p.2.2.2 z hz)⟩
theorem Ex.mono {P Q : Nat → Prop} {h h1 : PH} (p : Ex P h h1) (hPQ : ∀ z, P z → Q z) : Ex Q h h1 := ⟨p.1, p.2.1, p.2.2.1, fun z hz => p.2.2.2 z (fun k => hz (hPQ z k))⟩
theorem Ex.sI {P : Nat → Prop} {h : PH} {a k : Nat} {v : Int32} (ha : P a) : Ex P h (sI h a k v) := ⟨Sm.sI, rfl, rfl, fun z hz => hI_row_ne (fun e => hz (e ▸ ha))⟩
theorem Ex.sRow {P : Nat → Prop} {h : PH} {a : Nat} {f : Nat → Int32} (ha : P a) : Ex P h (sRow h a f) := ⟨Sm.sRow, rfl, rfl, fun z hz => hI_row_ne (fun e => hz (e ▸ ha))⟩
theorem Gx.ex {a : Nat} {h h' : PH} (g : Gx a h h') : Ex (fun z => z = a + 13 ∨ z = a + 16 ∨ z = a + 17) h h' := ⟨g.1, g.2.1, g.2.2.1, fun z hz => g.2.2.2 z (fun e => hz (Or.inl e)) (fun e => hz (Or.inr (Or.inl e))) (fun e => hz (Or.inr (Or.inr e)))⟩
theorem hI_sI_eq {h : PH} {a k : Nat} {v : Int32} : hI (sI h a k v) a = va_up (hI h a) k v := hI_row
theorem hI_sI_ne {h : PH} {a z k : Nat} {v : Int32} (hz : z ≠ a) : hI (sI h a k v) z = hI h z := hI_row_ne hz
theorem va_eq {α : Type} {f : Nat → α} {k : Nat} {v : α} : va_up f k v k = v := by unfold va_up; rw [if_pos rfl]
theorem va_ne {α : Type} {f : Nat → α} {k j : Nat} {v : α} (h : j ≠ k) : va_up f k v j = f j := by unfold va_up; rw [if_neg h]
/-- the valley at a is untouched by what changes other rows -/
theorem VA.ex {P : Nat → Prop} {h h' : PH} {a : Nat} {A : AV} (x : Ex P h h') (hP : ∀ z, a ≤ z → z < a + 18 → ¬ P z) (p : VA h a A) : VA h' a A := by
  have e : ∀ k, k < 18 → hI h' (a + k) = hI h (a + k) := fun k hk => x.2.2.2 _ (hP _ (by omega) (by omega))
  have e0 := e 0 (by decide)
  rw [Nat.add_zero] at e0
  refine ⟨p.1.sm x.1, ?_, p.2.2.1, ?_, ?_⟩
  · have := p.2.1
    unfold CV at this ⊢
    rw [e0, e 1 (by decide), e 3 (by decide), e 4 (by decide), e 5 (by decide), e 6 (by decide), e 7 (by decide), e 8 (by decide), e 9 (by decide), e 10 (by decide)]
    exact this
  · have := p.2.2.2.1
    unfold CL at this ⊢
    rw [e 11 (by decide), e 12 (by decide), e 14 (by decide), e 15 (by decide)]
    exact this
  · have := p.2.2.2.2
    unfold GM at this ⊢
    rw [e 17 (by decide)]
    exact this
theorem CS.ex {P : Nat → Prop} {h h' : PH} {s : Nat} {S : AS} (x : Ex P h h') (hP : ∀ z, s ≤ z → z < s + 5 → ¬ P z) (p : CS h s S) : CS h' s S := by
  have e : ∀ k, k < 5 → hI h' (s + k) = hI h (s + k) := fun k hk => x.2.2.2 _ (hP _ (by omega) (by omega))
  have e0 := e 0 (by decide)
  rw [Nat.add_zero] at e0
  unfold CS at p ⊢
  rw [e0, e 1 (by decide), e 2 (by decide), e 3 (by decide), e 4 (by decide)]
  exact p
/-- rows of a state -/
def inS (s z : Nat) : Prop := s ≤ z ∧ z < s + 5
/-- a house lights a fuel -/
def sLight (A : AV) (S : AS) (i f : Nat) : AS := (tH S, va_up (tF S) i (f + 1), va_up (tL S) i (aB A f), va_up (tT S) (5 * i + f) (tT S (5 * i + f) - 1), tS S)
theorem WS.light {A : AV} {J : Nat} {S : AS} (hW : WV A) (p : WS A J S) {i f : Nat} (hi : i < aC A 2) (hf : f < aC A 0) : WS A J (sLight A S i f) := by
  obtain ⟨p1, p2, p3, p4, p5⟩ := p
  have h2 := hW.1.2.2.1
  have hb := hW.2.1 f hf
  have h5 := hW.1.1
  refine ⟨p1, fun k hk => ?_, fun k hk => ?_, fun k g hk hg hc => ?_, p5⟩
  · show (va_up (tL S) i (aB A f) k ≤ 9 ∧ va_up (tF S) i (f + 1) k ≤ aC A 0 ∧ (va_up (tL S) i (aB A f) k = 0 ↔ va_up (tF S) i (f + 1) k = 0) ∧ (aC A 2 ≤ k → va_up (tL S) i (aB A f) k = 0))
    by_cases c : k = i
    · subst c
      rw [va_eq, va_eq]
      omega
    · rw [va_ne c, va_ne c]
      exact p2 k hk
  · show va_up (tT S) (5 * i + f) _ k ≤ 99
    by_cases c : k = 5 * i + f
    · subst c
      rw [va_eq]
      have := p3 (5 * i + f) hk
      omega
    · rw [va_ne c]
      exact p3 k hk
  · show va_up (tT S) (5 * i + f) _ (5 * k + g) = 0
    by_cases c : 5 * k + g = 5 * i + f
    · omega
    · rw [va_ne c]
      exact p4 k g hk hg hc
section CH
variable {N : Nat} {A : AV} {S : AS} {J s a : Nat} {h : PH}
theorem c_light (d : Dj s a) (p : VA h a A) (hS : ST h s) (hC : CS h s S) (hT : WS A J S) {i f : Nat} (hi : i < 4) (hf : f < aC A 0) : ∃ h', f_X4_light N s a (nI i) (nI f) h = some (yes (tL S i = 0 ∧ 0 < tT S (5 * i + f)), h') ∧ Ex (inS s) h h' ∧ CS h' s (if tL S i = 0 ∧ 0 < tT S (5 * i + f) then sLight A S i f else S) := by
  have hW := p.2.2.1
  have h5 := hW.1.1
  have hb := hW.2.1 f hf
  unfold f_X4_light
  rw [ck_p hS.1, c_canLight hS hC hT hi (by omega), cl_s]
  by_cases c : tL S i = 0 ∧ 0 < tT S (5 * i + f)
  · rw [if_neg (fun z => yes0.mp z c), if_pos c, show yes (tL S i = 0 ∧ 0 < tT S (5 * i + f)) = 1 from if_pos c]
    have ht := hT.2.2.1 (5 * i + f) (by omega)
    have e : nI i * (5 : Int32) + nI f = nI (5 * i + f) := by
      rw [show (5 : Int32) = nI 5 from rfl, pk_mul, nI_add, Nat.mul_comm]
    have hV := p.1
    have x1 : ix (nI (5 * i + f)) = 5 * i + f := ix_nI (by omega)
    have x2 : ix (nI i) = i := ix_nI (by omega)
    have x3 : ix (nI f) = f := ix_nI (by omega)
    have em : nI (tT S (5 * i + f)) - (1 : Int32) = nI (tT S (5 * i + f) - 1) := pk_sub (b := 1) (by omega)
    have hi1 : inb (nI (5 * i + f)) 20 := nI_ix (by omega) (by omega)
    have hi2 : inb (nI i) 4 := nI_ix (by omega) (by omega)
    have hi3 : inb (nI f) 5 := nI_ix (by omega) (by omega)
    unfold Dj at d
    rw [e, ck_p hS.1, sR_stock hS, rq_s, bd_e, ck_p (sK_stock hS), sN_stock hS, ck_p hi1, x1, bd_e, hC.2.1 _ (by omega), em]
    have hS2 : ST (sI h (s + 1) (5 * i + f) (nI (tT S (5 * i + f) - 1))) s := hS.sm Sm.sI
    rw [ck_p hS2.1, sR_fuel hS2, rq_s, ck_p (sK_fuel hS2), sN_fuel hS2, ck_p hi2, x2, bd_e]
    have hS3 : ST (sI (sI h (s + 1) (5 * i + f) (nI (tT S (5 * i + f) - 1))) (s + 2) i (nI f)) s := hS2.sm Sm.sI
    have hV3 : VL (sI (sI h (s + 1) (5 * i + f) (nI (tT S (5 * i + f) - 1))) (s + 2) i (nI f)) a := (hV.sm Sm.sI).sm Sm.sI
    have b5 : hI (sI (sI h (s + 1) (5 * i + f) (nI (tT S (5 * i + f) - 1))) (s + 2) i (nI f)) (a + 5) f = nI (aB A f) := by
      rw [hI_sI_ne (by omega), hI_sI_ne (by omega), (p.2.1.2.2.1 f hf).2.2]
    rw [ck_p hS3.1, sR_left hS3, rq_s, ck_p hV3.1, vR_burns hV3, rq_s, ck_p (vK_burns hV3), vN_burns hV3, ck_p hi3, ck_p (sK_left hS3), sN_left hS3, ck_p hi2, x3, bd_e, b5]
    refine ⟨_, rfl, ?_, ?_⟩
    · exact ((Ex.sI (by unfold inS; omega)).trans (Ex.sI (by unfold inS; omega))).trans (Ex.sI (by unfold inS; omega))
    · refine ⟨?_, fun k hk => ?_, fun k hk => ?_, fun k hk => ?_, fun k hk => ?_⟩
      · rw [hI_sI_ne (by omega), hI_sI_ne (by omega), hI_sI_ne (by omega)]; exact hC.1
      · rw [hI_sI_ne (by omega), hI_sI_ne (by omega), hI_sI_eq]
        show va_up _ _ _ k = nI (va_up (tT S) (5 * i + f) _ k)
        by_cases q : k = 5 * i + f
        · rw [q, va_eq, va_eq]
        · rw [va_ne q, va_ne q]; exact hC.2.1 k hk
      · rw [hI_sI_ne (by omega), hI_sI_eq, hI_sI_ne (by omega)]
        show va_up _ _ _ k = nI (va_up (tF S) i (f + 1) k) + (-1)
        by_cases q : k = i
        · rw [q, va_eq, va_eq, pk_m1]
        · rw [va_ne q, va_ne q]; exact hC.2.2.1 k hk
      · rw [hI_sI_eq, hI_sI_ne (by omega), hI_sI_ne (by omega)]
        show va_up _ _ _ k = nI (va_up (tL S) i (aB A f) k)
        by_cases q : k = i
        · rw [q, va_eq, va_eq]
        · rw [va_ne q, va_ne q]; exact hC.2.2.2.1 k hk
      · rw [hI_sI_ne (by omega), hI_sI_ne (by omega), hI_sI_ne (by omega)]; exact hC.2.2.2.2 k hk
  · rw [if_pos (yes0.mpr c), if_neg c, show yes (tL S i = 0 ∧ 0 < tT S (5 * i + f)) = 0 from if_neg c]
    exact ⟨h, rfl, Ex.rf, hC⟩
/-- a house hands m of a fuel to another -/
def sHand (S : AS) (i o f m : Nat) : AS := (tH S, tF S, tL S, va_up (va_up (tT S) (5 * i + f) (tT S (5 * i + f) - m)) (5 * o + f) (min (tT S (5 * o + f) + m) 99), tS S)
theorem c_canHand (hS : ST h s) (hC : CS h s S) (hT : WS A J S) {i o f : Nat} (hi : i < 4) (ho : o < 4) (hf : f < 5) (m : Int32) : f_X4_canHand N s (nI i) (nI o) (nI f) m h = some (yes (o ≠ i ∧ 0 < m ∧ m ≤ nI (tT S (5 * i + f))), h) := by
  have ht := hT.2.2.1 (5 * i + f) (by omega)
  unfold f_X4_canHand
  rw [if_neg (nI_pos (by omega)), if_neg (show ¬ (4 : Int32) ≤ nI o from nI_ge (b := 4) ho (by decide)), ite_i (nI_eq (by omega) (by omega)), ck_p hS.1, c_stockOf hS hC hi hf, cl_s]
  unfold yes
  by_cases c : o = i
  · rw [if_pos c, if_neg (fun z => z.1 c)]
  · rw [if_neg c]
    by_cases c2 : m ≤ 0
    · rw [if_pos c2, if_neg (fun z => by have := z.2.1; rw [fa_lt] at this; rw [fa_le] at c2; omega)]
    · rw [if_neg c2]
      have c2' := fa_of_nle c2
      by_cases c3 : nI (tT S (5 * i + f)) < m
      · rw [if_pos c3, if_neg (fun z => by have := z.2.2; rw [fa_lt] at c3; rw [fa_le] at this; omega)]
      · rw [if_neg c3, if_pos ⟨c, c2', fa_of_nlt c3⟩]
theorem c_hand (hS : ST h s) (hC : CS h s S) (hT : WS A J S) {i o f m : Nat} (hi : i < 4) (ho : o < 4) (hf : f < 5) (hm : m ≤ 99) : ∃ h', f_X4_hand N s (nI i) (nI o) (nI f) (nI m) h = some (yes (o ≠ i ∧ 0 < m ∧ m ≤ tT S (5 * i + f)), h') ∧ Ex (inS s) h h' ∧ CS h' s (if o ≠ i ∧ 0 < m ∧ m ≤ tT S (5 * i + f) then sHand S i o f m else S) := by
  have ht := hT.2.2.1 (5 * i + f) (by omega)
  have ht2 := hT.2.2.1 (5 * o + f) (by omega)
  unfold f_X4_hand
  have ec : (o ≠ i ∧ 0 < nI m ∧ nI m ≤ nI (tT S (5 * i + f))) ↔ (o ≠ i ∧ 0 < m ∧ m ≤ tT S (5 * i + f)) := by
    rw [show (0 : Int32) = nI 0 from rfl, nI_ltI (by omega) (by omega), nI_leI (by omega) (by omega)]
  rw [ck_p hS.1, c_canHand hS hC hT hi ho hf, cl_s, yes_i ec]
  by_cases c : o ≠ i ∧ 0 < m ∧ m ≤ tT S (5 * i + f)
  · rw [if_neg (fun z => yes0.mp z c), if_pos c, show yes (o ≠ i ∧ 0 < m ∧ m ≤ tT S (5 * i + f)) = 1 from if_pos c]
    have e : ∀ i, nI i * (5 : Int32) + nI f = nI (5 * i + f) := fun i => by
      rw [show (5 : Int32) = nI 5 from rfl, pk_mul, nI_add, Nat.mul_comm]
    rw [e i, e o]
    have hne : 5 * o + f ≠ 5 * i + f := by omega
    have hi1 : inb (nI (5 * i + f)) 20 := nI_ix (by omega) (by omega)
    have hi2 : inb (nI (5 * o + f)) 20 := nI_ix (by omega) (by omega)
    have x1 : ix (nI (5 * i + f)) = 5 * i + f := ix_nI (by omega)
    have x2 : ix (nI (5 * o + f)) = 5 * o + f := ix_nI (by omega)
    rw [ck_p hS.1, sR_stock hS, rq_s, bd_e, ck_p (sK_stock hS), sN_stock hS, ck_p hi1, x1, bd_e, hC.2.1 _ (by omega), pk_sub c.2.2]
    have hS2 : ST (sI h (s + 1) (5 * i + f) (nI (tT S (5 * i + f) - m))) s := hS.sm Sm.sI
    have hC2 : CS (sI h (s + 1) (5 * i + f) (nI (tT S (5 * i + f) - m))) s (tH S, tF S, tL S, va_up (tT S) (5 * i + f) (tT S (5 * i + f) - m), tS S) := by
      refine ⟨?_, fun k hk => ?_, fun k hk => ?_, fun k hk => ?_, fun k hk => ?_⟩
      · rw [hI_sI_ne (by omega)]; exact hC.1
      · rw [hI_sI_eq]
        show va_up _ _ _ k = nI (va_up (tT S) (5 * i + f) _ k)
        by_cases q : k = 5 * i + f
        · rw [q, va_eq, va_eq]
        · rw [va_ne q, va_ne q]; exact hC.2.1 k hk
      · rw [hI_sI_ne (by omega)]; exact hC.2.2.1 k hk
      · rw [hI_sI_ne (by omega)]; exact hC.2.2.2.1 k hk
      · rw [hI_sI_ne (by omega)]; exact hC.2.2.2.2 k hk
    have es : tT (tH S, tF S, tL S, va_up (tT S) (5 * i + f) (tT S (5 * i + f) - m), tS S) (5 * o + f) = tT S (5 * o + f) := va_ne hne
    rw [ck_p hS2.1, c_stockOf hS2 hC2 ho hf, cl_s, es, nI_add, bd_e, ck_p hS2.1, sR_stock hS2, rq_s, ck_p (sK_stock hS2), sN_stock hS2, ck_p hi2, x2, show (99 : Int32) = nI 99 from rfl, min9 (by omega) (by decide), bd_e]
    refine ⟨_, rfl, (Ex.sI (by unfold inS; omega)).trans (Ex.sI (by unfold inS; omega)), ?_⟩
    refine ⟨?_, fun k hk => ?_, fun k hk => ?_, fun k hk => ?_, fun k hk => ?_⟩
    · rw [hI_sI_ne (by omega)]; exact hC2.1
    · rw [hI_sI_eq]
      show va_up _ _ _ k = nI (va_up _ (5 * o + f) _ k)
      by_cases q : k = 5 * o + f
      · rw [q, va_eq, va_eq]
      · rw [va_ne q, va_ne q]; exact hC2.2.1 k hk
    · rw [hI_sI_ne (by omega)]; exact hC2.2.2.1 k hk
    · rw [hI_sI_ne (by omega)]; exact hC2.2.2.2.1 k hk
    · rw [hI_sI_ne (by omega)]; exact hC2.2.2.2.2 k hk
  · rw [if_pos (yes0.mpr c), if_neg c, show yes (o ≠ i ∧ 0 < m ∧ m ≤ tT S (5 * i + f)) = 0 from if_neg c]
    exact ⟨h, rfl, Ex.rf, hC⟩
end CH
