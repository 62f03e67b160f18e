/-! The class's walk: a look. -/
theorem rkX_ex {V : Nat} : ∀ k q, q < rkX V k → ∃ j, j < k ∧ V.testBit j = true ∧ rkX V j = q
  | 0, q, h => absurd h (Nat.not_lt_zero q)
  | k + 1, q, h => by
    unfold rkX at h
    by_cases t : V.testBit k = true
    · rw [if_pos t] at h
      by_cases e : q = rkX V k
      · exact ⟨k, Nat.lt_succ_self k, t, e.symm⟩
      · obtain ⟨j, a, b, c⟩ := rkX_ex (V := V) k q (by omega)
        exact ⟨j, by omega, b, c⟩
    · rw [if_neg t] at h
      obtain ⟨j, a, b, c⟩ := rkX_ex (V := V) k q (by omega)
      exact ⟨j, by omega, b, c⟩
theorem rkX_inj {V i j : Nat} (ti : V.testBit i = true) (tj : V.testBit j = true) (h : rkX V i = rkX V j) : i = j := by
  rcases Nat.lt_trichotomy i j with c | c | c
  · have := rkX_lt c ti; omega
  · exact c
  · have := rkX_lt c tj; omega
def okL (A : AV) (l : List (Nat → Nat)) : Prop := ∀ u, u ∈ l → okU A u
theorem sN_ok {A : AV} {j : Nat} (hj : j < 4) : ∀ {l}, okL A l → sN j l = 6 ∨ sN j l = 5 ∨ sN j l < aC A 0
  | [], _ => Or.inl rfl
  | [u], h => by
    have := h u (by simp) j hj
    show u j = 6 ∨ u j = 5 ∨ u j < aC A 0
    omega
  | u :: v :: l, h => by
    have q := h u (by simp) j hj
    show (if sN j (v :: l) = u j then u j else 6) = 6 ∨ (if sN j (v :: l) = u j then u j else 6) = 5 ∨ (if sN j (v :: l) = u j then u j else 6) < aC A 0
    split
    · omega
    · exact Or.inl rfl
theorem ce_eq {A : AV} (h5 : aC A 0 ≤ 5) {n m : Nat} (hn : n = 6 ∨ n = 5 ∨ n < aC A 0) (hm : m = 5 ∨ m < aC A 0) : ce A n = nI (cu A m) ↔ n = m := by
  unfold ce
  by_cases c : n = 6
  · rw [if_pos c]
    refine ⟨fun z => ?_, fun z => by omega⟩
    have b : cu A m ≤ 5 := by unfold cu; split <;> omega
    have := congrArg Int32.toInt z
    rw [nI_toInt (by omega), show (-1 : Int32).toInt = -1 by decide] at this
    omega
  · rw [if_neg c]
    have b1 : cu A m ≤ 5 := by unfold cu; split <;> omega
    have b2 : cu A n ≤ 5 := by unfold cu; split <;> omega
    rw [nI_eq (by omega) (by omega)]
    unfold cu
    by_cases c1 : n = 5
    · rw [if_pos c1]
      by_cases c2 : m = 5
      · rw [if_pos c2]; omega
      · rw [if_neg c2]; omega
    · rw [if_neg c1]
      by_cases c2 : m = 5
      · rw [if_pos c2]; omega
      · rw [if_neg c2]
theorem ce_v {A : AV} {m : Nat} (hm : m = 5 ∨ m < aC A 0) (h5 : aC A 0 ≤ 5) : ce A m = nI (cu A m) := if_neg (by omega)
section LK
variable {N : Nat} {A : AV} {S : AS} {x : Nat}
/-- the cells chosen hold u -/
def WCh (A : AV) (V : Nat) (h : PH) (x k : Nat) (u : Nat → Nat) : Prop := ∀ j, j < k → V.testBit j = true → hI h (x + 23 + 3) (rkX V j) = nI (cu A (u j))
theorem c_lk148 (h5 : aC A 0 ≤ 5) {V : Nat} {u : Nat → Nat} {l : List (Nat → Nat)} (ok : okU A u) (okl : okL A l) (hl : l.length ≤ 5000) : ∀ (n q : Nat) (h : PH), rkX V 4 < n + q → q ≤ rkX V 4 → WK h (x + 23) → hI h (x + 23) 11 = nI (rkX V 4) → hI h (x + 23) 13 = nI (l.length + 1) → WCh A V h x 4 u → (∀ j, j < 4 → V.testBit j = true → rkX V j < q → hI h (x + 23 + 4) (rkX V j) = ce A (sN j (u :: l))) → (∀ j, j < 4 → V.testBit j = true → q ≤ rkX V j → l ≠ [] → hI h (x + 23 + 4) (rkX V j) = ce A (sN j l)) → ∃ h', f_X8_look_148 N n (x + 23) (nI q) h = some ((), h') ∧ Ex (fun z => z = x + 27) h h' ∧ ∀ j, j < 4 → V.testBit j = true → hI h' (x + 23 + 4) (rkX V j) = ce A (sN j (u :: l))
  | 0, q, h, h1, h2, _, _, _, _, _, _ => by omega
  | n + 1, q, h, h1, h2, wk, e11, e13, wc, ha, hb => by
    have r4 := rkX_le V 4
    show ∃ h', f_X8_look_148_b N (f_X8_look_148 N n) (x + 23) _ h = _ ∧ _
    unfold f_X8_look_148_b
    rw [ck_p wk.1, e11, ite_i (nI_leI (by omega) (by omega))]
    by_cases c : rkX V 4 ≤ q
    · rw [if_pos c]
      exact ⟨h, rfl, Ex.rf, fun j hj t => ha j hj t (by have := rkX_lt hj t; omega)⟩
    · obtain ⟨j, hj, tj, ej⟩ := rkX_ex (V := V) 4 q (by omega)
      have okj := ok j hj
      have jq : inb (nI q) 4 := nI_ix (by omega) (by decide)
      have xq : ix (nI q) = q := ix_nI (by omega)
      have ch : hI h (x + 23 + 3) q = nI (cu A (u j)) := by rw [← ej]; exact wc j hj tj
      -- the row same as it is to be
      have next : ∀ g, Ex (fun z => z = x + 27) h g → hI g (x + 23 + 4) q = ce A (sN j (u :: l)) → (∀ i, i ≠ q → hI g (x + 23 + 4) i = hI h (x + 23 + 4) i) → ∃ h', f_X8_look_207 N (f_X8_look_148 N n) (x + 23) (nI q) g = some ((), h') ∧ Ex (fun z => z = x + 27) h h' ∧ ∀ j, j < 4 → V.testBit j = true → hI h' (x + 23 + 4) (rkX V j) = ce A (sN j (u :: l)) := fun g eg gq go => by
        obtain ⟨h', r1, r2, r3⟩ := c_lk148 h5 (V := V) ok okl hl n (q + 1) g (by omega) (by omega) (wk.sm eg.1) (by rw [eg.2.2.2 _ (by omega)]; exact e11) (by rw [eg.2.2.2 _ (by omega)]; exact e13) (fun i hi t => by rw [eg.2.2.2 _ (by omega)]; exact wc i hi t) (fun i hi t hlt => by
          by_cases e : i = j
          · rw [e, ej]; exact gq
          · have ne : rkX V i ≠ q := fun z => e (rkX_inj t tj (z.trans ej.symm))
            rw [go _ ne]
            exact ha i hi t (by omega)) (fun i hi t hle ne => by
          rw [go _ (by omega)]
          exact hb i hi t (by omega) ne)
        refine ⟨h', ?_, eg.trans r2, r3⟩
        unfold f_X8_look_207
        rw [bd_e, nI_1]
        exact r1
      rw [if_neg c, e13, ite_i (show nI (l.length + 1) = 1 ↔ l.length + 1 = 1 from nI_eq (b := 1) (by omega) (by decide))]
      cases l with
      | nil =>
        rw [if_pos (show ([] : List (Nat → Nat)).length + 1 = 1 from rfl), wk.2.1.2.2.2.1, rq_s, wk.2.1.2.2.1, rq_s, ck_p wk.2.2.2.2.1.1, wk.2.2.2.2.1.2, ck_p jq, ck_p wk.2.2.2.2.2.1.1, wk.2.2.2.2.2.1.2, ck_p jq, xq, ch, bd_e]
        refine next _ (Ex.sI (P := fun z => z = x + 27) (by omega)) ?_ (fun i hi => by rw [hI_sI_eq, va_ne hi])
        rw [hI_sI_eq, va_eq]
        exact (ce_v okj h5).symm
      | cons v l =>
        have sm : hI h (x + 23 + 4) q = ce A (sN j (v :: l)) := by rw [← ej]; exact hb j hj tj (by omega) (by simp)
        have es : sN j (u :: v :: l) = if sN j (v :: l) = u j then u j else 6 := rfl
        have cq := ce_eq h5 (sN_ok hj okl) okj
        rw [es] at next
        rw [if_neg (by simp), wk.2.1.2.2.2.1, rq_s, ck_p wk.2.2.2.2.2.1.1, wk.2.2.2.2.2.1.2, ck_p jq, xq, wk.2.1.2.2.1, rq_s, ck_p wk.2.2.2.2.1.1, wk.2.2.2.2.1.2, ck_p jq, sm, ch, ite_i cq]
        by_cases e : sN j (v :: l) = u j
        · rw [if_pos e]
          rw [if_pos e] at next
          exact next h Ex.rf (by rw [sm, e]) (fun _ _ => rfl)
        · rw [if_neg e, rq_s, ck_p wk.2.2.2.2.2.1.1, wk.2.2.2.2.2.1.2, ck_p jq, bd_e]
          rw [if_neg e] at next
          refine next _ (Ex.sI (P := fun z => z = x + 27) (by omega)) ?_ (fun i hi => by rw [hI_sI_eq, va_ne hi])
          rw [hI_sI_eq, va_eq]
          rfl
theorem maxI {a b : Nat} (ha : a < 2 ^ 31) (hb : b < 2 ^ 31) : (if nI a < nI b then nI b else nI a) = nI (max a b) := by
  rw [ite_i (nI_ltI ha hb)]
  by_cases c : a < b
  · rw [if_pos c, Nat.max_eq_right (by omega)]
  · rw [if_neg c, Nat.max_eq_left (by omega)]
def wkQ (x z : Nat) : Prop := z = x + 23 ∨ (x + 26 ≤ z ∧ z ≤ x + 30)
set_option maxHeartbeats 1000000 in
theorem c_lk50 (hN : 100 ≤ N) {f V v w : Nat} {u : Nat → Nat} {l : List (Nat → Nat)} {R : AR} {mi : Bool} {bs : Nat → Int32} {h : PH} (hv : x + 43 ≤ v) (wf : WFx A R f V w mi bs h x v) (wa : WAc A S f V h x l) (wc : WCh A V h x 4 u) (ok : okU A u) (okl : okL A l) (hl : l.length ≤ 5000) : ∃ h', f_X8_look_50 N (nI (sgK A (sb A S u f 0) (sb A S u f 1))) (x + 23) (nI (sb A S u f 0)) (nI (sb A S u f 1)) h = some ((), h') ∧ Ex (wkQ x) h h' ∧ WFx A R f V w mi bs h' x v ∧ WAc A S f V h' x (u :: l) ∧ hI h' (x + 26) = hI h (x + 26) := by
  obtain ⟨wk, mt, pv, cR, -, -, -, -, e11, -, -⟩ := id wf
  have hW := pv.2.2.1
  have h5 := hW.1.1
  have h6 := hW.1.2.2.2.1
  obtain ⟨a13, aD, aS, aG, a14, a15, a16, aSm⟩ := wa
  have dl := sb_le A S u f 0
  have sl := sb_le A S u f 1
  have gl : sgK A (sb A S u f 0) (sb A S u f 1) ≤ 6 := by
    rcases sgK_c hW (sb A S u f 0) (sb A S u f 1) with ⟨-, e⟩ | ⟨k, hk, -, e⟩ <;> omega
  generalize hd : sb A S u f 0 = d at *
  generalize hs : sb A S u f 1 = s at *
  generalize hg : sgK A d s = g at *
  have cd := cn_le (key := fun u => sb A S u f 0) (d := d) l
  have cs := cn_le (key := fun u => sb A S u f 1) (d := s) l
  have cg := cn_le (key := fun u => sgK A (sb A S u f 0) (sb A S u f 1)) (d := g) l
  have md := mx_le (key := fun u => sb A S u f 0) l
  have ms := mx_le (key := fun u => sb A S u f 1) l
  have mg := mx_le (key := fun u => sgK A (sb A S u f 0) (sb A S u f 1)) l
  have jd : inb (nI d) 1000 := nI_ix (by omega) (by decide)
  have js : inb (nI s) 1000 := nI_ix (by omega) (by decide)
  have jg : inb (nI g) 7 := nI_ix (by omega) (by decide)
  have xd : ix (nI d) = d := ix_nI (by omega)
  have xs : ix (nI s) = s := ix_nI (by omega)
  have xg : ix (nI g) = g := ix_nI (by omega)
  have r4 : WK h (x + 23) := wk
  unfold f_X8_look_50
  rw [ck_p wk.1, a13, nI_1, bd_e]
  have y0 : Ex (wkQ x) h (sI h (x + 23) 13 (nI (l.length + 1))) := Ex.sI (Or.inl rfl)
  have f0 : hI (sI h (x + 23) 13 (nI (l.length + 1))) (x + 23) = va_up (hI h (x + 23)) 13 (nI (l.length + 1)) := hI_sI_eq
  have g0 : ∀ z, z ≠ x + 23 → hI (sI h (x + 23) 13 (nI (l.length + 1))) z = hI h z := fun z hz => hI_sI_ne hz
  generalize sI h (x + 23) 13 (nI (l.length + 1)) = h0 at y0 f0 g0 ⊢
  have k0 := wk.sm y0.1
  rw [ck_p k0.1, k0.2.1.2.2.2.2.1, rq_s, ck_p k0.2.2.2.2.2.2.1.1, k0.2.2.2.2.2.2.1.2, ck_p jd, xd, g0 _ (by omega), aD d dl, nI_1, bd_e]
  have y1 : Ex (wkQ x) h0 (sI h0 (x + 23 + 5) d (nI (cn (fun u => sb A S u f 0) d l + 1))) := Ex.sI (by unfold wkQ; omega)
  have f1 : hI (sI h0 (x + 23 + 5) d (nI (cn (fun u => sb A S u f 0) d l + 1))) (x + 23 + 5) = va_up (hI h0 (x + 23 + 5)) d (nI (cn (fun u => sb A S u f 0) d l + 1)) := hI_sI_eq
  have g1 : ∀ z, z ≠ x + 23 + 5 → hI (sI h0 (x + 23 + 5) d (nI (cn (fun u => sb A S u f 0) d l + 1))) z = hI h0 z := fun z hz => hI_sI_ne hz
  generalize sI h0 (x + 23 + 5) d (nI (cn (fun u => sb A S u f 0) d l + 1)) = h1 at y1 f1 g1 ⊢
  have k1 := k0.sm y1.1
  rw [ck_p k1.1, k1.2.1.2.2.2.2.2.1, rq_s, ck_p k1.2.2.2.2.2.2.2.1.1, k1.2.2.2.2.2.2.2.1.2, ck_p js, xs, g1 _ (by omega), g0 _ (by omega), aS s sl, nI_1, bd_e]
  have y2 : Ex (wkQ x) h1 (sI h1 (x + 23 + 6) s (nI (cn (fun u => sb A S u f 1) s l + 1))) := Ex.sI (by unfold wkQ; omega)
  have f2 : hI (sI h1 (x + 23 + 6) s (nI (cn (fun u => sb A S u f 1) s l + 1))) (x + 23 + 6) = va_up (hI h1 (x + 23 + 6)) s (nI (cn (fun u => sb A S u f 1) s l + 1)) := hI_sI_eq
  have g2 : ∀ z, z ≠ x + 23 + 6 → hI (sI h1 (x + 23 + 6) s (nI (cn (fun u => sb A S u f 1) s l + 1))) z = hI h1 z := fun z hz => hI_sI_ne hz
  generalize sI h1 (x + 23 + 6) s (nI (cn (fun u => sb A S u f 1) s l + 1)) = h2 at y2 f2 g2 ⊢
  have k2 := k1.sm y2.1
  rw [ck_p k2.1, k2.2.1.2.2.2.2.2.2, rq_s, ck_p k2.2.2.2.2.2.2.2.2.1, k2.2.2.2.2.2.2.2.2.2, ck_p jg, xg, g2 _ (by omega), g1 _ (by omega), g0 _ (by omega), aG g gl, nI_1, bd_e]
  have y3 : Ex (wkQ x) h2 (sI h2 (x + 23 + 7) g (nI (cn (fun u => sgK A (sb A S u f 0) (sb A S u f 1)) g l + 1))) := Ex.sI (by unfold wkQ; omega)
  have f3 : hI (sI h2 (x + 23 + 7) g (nI (cn (fun u => sgK A (sb A S u f 0) (sb A S u f 1)) g l + 1))) (x + 23 + 7) = va_up (hI h2 (x + 23 + 7)) g (nI (cn (fun u => sgK A (sb A S u f 0) (sb A S u f 1)) g l + 1)) := hI_sI_eq
  have g3 : ∀ z, z ≠ x + 23 + 7 → hI (sI h2 (x + 23 + 7) g (nI (cn (fun u => sgK A (sb A S u f 0) (sb A S u f 1)) g l + 1))) z = hI h2 z := fun z hz => hI_sI_ne hz
  generalize sI h2 (x + 23 + 7) g (nI (cn (fun u => sgK A (sb A S u f 0) (sb A S u f 1)) g l + 1)) = h3 at y3 f3 g3 ⊢
  have k3 := k2.sm y3.1
  have s3 : hI h3 (x + 23) = va_up (hI h (x + 23)) 13 (nI (l.length + 1)) := by rw [g3 _ (by omega), g2 _ (by omega), g1 _ (by omega), f0]
  have d3 : hI h3 (x + 23 + 5) d = nI (cn (fun u => sb A S u f 0) d l + 1) := by rw [g3 _ (by omega), g2 _ (by omega), f1, va_eq]
  have v14 : hI h3 (x + 23) 14 = nI (mx (fun u => sb A S u f 0) l) := by rw [s3, va_ne (by decide)]; exact a14
  rw [ck_p k3.1, k3.2.1.2.2.2.2.1, rq_s, ck_p k3.2.2.2.2.2.2.1.1, k3.2.2.2.2.2.2.1.2, ck_p jd, d3, v14, maxI (by omega) (by omega), bd_e]
  have y4 : Ex (wkQ x) h3 (sI h3 (x + 23) 14 (nI (max (mx (fun u => sb A S u f 0) l) (cn (fun u => sb A S u f 0) d l + 1)))) := Ex.sI (Or.inl rfl)
  have f4 : hI (sI h3 (x + 23) 14 (nI (max (mx (fun u => sb A S u f 0) l) (cn (fun u => sb A S u f 0) d l + 1)))) (x + 23) = va_up (hI h3 (x + 23)) 14 (nI (max (mx (fun u => sb A S u f 0) l) (cn (fun u => sb A S u f 0) d l + 1))) := hI_sI_eq
  have g4 : ∀ z, z ≠ x + 23 → hI (sI h3 (x + 23) 14 (nI (max (mx (fun u => sb A S u f 0) l) (cn (fun u => sb A S u f 0) d l + 1)))) z = hI h3 z := fun z hz => hI_sI_ne hz
  generalize sI h3 (x + 23) 14 (nI (max (mx (fun u => sb A S u f 0) l) (cn (fun u => sb A S u f 0) d l + 1))) = h4 at y4 f4 g4 ⊢
  have k4 := k3.sm y4.1
  have d4 : hI h4 (x + 23 + 6) s = nI (cn (fun u => sb A S u f 1) s l + 1) := by rw [g4 _ (by omega), g3 _ (by omega), f2, va_eq]
  have v15 : hI h4 (x + 23) 15 = nI (mx (fun u => sb A S u f 1) l) := by rw [f4, va_ne (by decide), s3, va_ne (by decide)]; exact a15
  rw [ck_p k4.1, k4.2.1.2.2.2.2.2.1, rq_s, ck_p k4.2.2.2.2.2.2.2.1.1, k4.2.2.2.2.2.2.2.1.2, ck_p js, d4, v15, maxI (by omega) (by omega), bd_e]
  have y5 : Ex (wkQ x) h4 (sI h4 (x + 23) 15 (nI (max (mx (fun u => sb A S u f 1) l) (cn (fun u => sb A S u f 1) s l + 1)))) := Ex.sI (Or.inl rfl)
  have f5 : hI (sI h4 (x + 23) 15 (nI (max (mx (fun u => sb A S u f 1) l) (cn (fun u => sb A S u f 1) s l + 1)))) (x + 23) = va_up (hI h4 (x + 23)) 15 (nI (max (mx (fun u => sb A S u f 1) l) (cn (fun u => sb A S u f 1) s l + 1))) := hI_sI_eq
  have g5 : ∀ z, z ≠ x + 23 → hI (sI h4 (x + 23) 15 (nI (max (mx (fun u => sb A S u f 1) l) (cn (fun u => sb A S u f 1) s l + 1)))) z = hI h4 z := fun z hz => hI_sI_ne hz
  generalize sI h4 (x + 23) 15 (nI (max (mx (fun u => sb A S u f 1) l) (cn (fun u => sb A S u f 1) s l + 1))) = h5' at y5 f5 g5 ⊢
  have k5 := k4.sm y5.1
  have d5 : hI h5' (x + 23 + 7) g = nI (cn (fun u => sgK A (sb A S u f 0) (sb A S u f 1)) g l + 1) := by rw [g5 _ (by omega), g4 _ (by omega), f3, va_eq]
  have v16 : hI h5' (x + 23) 16 = nI (mx (fun u => sgK A (sb A S u f 0) (sb A S u f 1)) l) := by rw [f5, va_ne (by decide), f4, va_ne (by decide), s3, va_ne (by decide)]; exact a16
  rw [ck_p k5.1, k5.2.1.2.2.2.2.2.2, rq_s, ck_p k5.2.2.2.2.2.2.2.2.1, k5.2.2.2.2.2.2.2.2.2, ck_p jg, d5, v16, maxI (by omega) (by omega), bd_e]
  have y6 : Ex (wkQ x) h5' (sI h5' (x + 23) 16 (nI (max (mx (fun u => sgK A (sb A S u f 0) (sb A S u f 1)) l) (cn (fun u => sgK A (sb A S u f 0) (sb A S u f 1)) g l + 1)))) := Ex.sI (Or.inl rfl)
  have f6 : hI (sI h5' (x + 23) 16 (nI (max (mx (fun u => sgK A (sb A S u f 0) (sb A S u f 1)) l) (cn (fun u => sgK A (sb A S u f 0) (sb A S u f 1)) g l + 1)))) (x + 23) = va_up (hI h5' (x + 23)) 16 (nI (max (mx (fun u => sgK A (sb A S u f 0) (sb A S u f 1)) l) (cn (fun u => sgK A (sb A S u f 0) (sb A S u f 1)) g l + 1))) := hI_sI_eq
  have g6 : ∀ z, z ≠ x + 23 → hI (sI h5' (x + 23) 16 (nI (max (mx (fun u => sgK A (sb A S u f 0) (sb A S u f 1)) l) (cn (fun u => sgK A (sb A S u f 0) (sb A S u f 1)) g l + 1)))) z = hI h5' z := fun z hz => hI_sI_ne hz
  generalize sI h5' (x + 23) 16 (nI (max (mx (fun u => sgK A (sb A S u f 0) (sb A S u f 1)) l) (cn (fun u => sgK A (sb A S u f 0) (sb A S u f 1)) g l + 1))) = h6' at y6 f6 g6 ⊢
  have k6 := k5.sm y6.1
  have oth : ∀ z, z ≠ x + 23 → z ≠ x + 23 + 5 → z ≠ x + 23 + 6 → z ≠ x + 23 + 7 → hI h6' z = hI h z := fun z z1 z2 z3 z4 => by rw [g6 z z1, g5 z z1, g4 z z1, g3 z z4, g2 z z3, g1 z z2, g0 z z1]
  have sl6 : ∀ j, j ≠ 13 → j ≠ 14 → j ≠ 15 → j ≠ 16 → hI h6' (x + 23) j = hI h (x + 23) j := fun j j1 j2 j3 j4 => by rw [f6, va_ne j4, f5, va_ne j3, f4, va_ne j2, s3, va_ne j1]
  obtain ⟨h', r1, r2, r3⟩ := c_lk148 (N := N) h5 (V := V) ok okl hl N 0 h6' (by have := rkX_le V 4; omega) (by omega) k6 (by rw [sl6 11 (by decide) (by decide) (by decide) (by decide)]; exact e11) (by rw [f6, va_ne (by decide), f5, va_ne (by decide), f4, va_ne (by decide), s3, va_eq]) (fun j hj t => by rw [oth _ (by omega) (by omega) (by omega) (by omega)]; exact wc j hj t) (fun j hj t z => absurd z (Nat.not_lt_zero _)) (fun j hj t z ne => by rw [oth _ (by omega) (by omega) (by omega) (by omega)]; exact aSm j hj t ne)
  have Y : Ex (wkQ x) h h6' := (((((y0.trans y1).trans y2).trans y3).trans y4).trans y5).trans y6
  have Z : Ex (wkQ x) h h' := Y.trans (r2.mono (fun z hz => by unfold wkQ; omega))
  have sl' : ∀ j, hI h' (x + 23) j = hI h6' (x + 23) j := fun j => by rw [r2.2.2.2 _ (by omega)]
  have e13 : hI h6' (x + 23) 13 = nI (l.length + 1) := by rw [f6, va_ne (by decide), f5, va_ne (by decide), f4, va_ne (by decide), s3, va_eq]
  have e14 : hI h6' (x + 23) 14 = nI (max (mx (fun u => sb A S u f 0) l) (cn (fun u => sb A S u f 0) d l + 1)) := by rw [f6, va_ne (by decide), f5, va_ne (by decide), f4, va_eq]
  have e15 : hI h6' (x + 23) 15 = nI (max (mx (fun u => sb A S u f 1) l) (cn (fun u => sb A S u f 1) s l + 1)) := by rw [f6, va_ne (by decide), f5, va_eq]
  have e16 : hI h6' (x + 23) 16 = nI (max (mx (fun u => sgK A (sb A S u f 0) (sb A S u f 1)) l) (cn (fun u => sgK A (sb A S u f 0) (sb A S u f 1)) g l + 1)) := by rw [f6, va_eq]
  have c1 : ∀ key : (Nat → Nat) → Nat, ∀ z, key u = z → cn key z (u :: l) = cn key z l + 1 := fun key z e => by
    show cn key z l + (if key u = z then 1 else 0) = _
    rw [if_pos e]
  have c0 : ∀ key : (Nat → Nat) → Nat, ∀ z, key u ≠ z → cn key z (u :: l) = cn key z l := fun key z e => by
    show cn key z l + (if key u = z then 1 else 0) = _
    rw [if_neg e]
    omega
  have cm : ∀ key : (Nat → Nat) → Nat, ∀ z, key u = z → mx key (u :: l) = max (mx key l) (cn key z l + 1) := fun key z e => by
    show max (mx key l) (cn key (key u) (u :: l)) = _
    rw [e, c1 key z e]
  have kg : sgK A (sb A S u f 0) (sb A S u f 1) = g := by rw [hd, hs]; exact hg
  have pv' : VA h' v A := pv.ex Z (fun z z1 z2 z3 => by unfold wkQ at z3; omega)
  refine ⟨h', r1, Z, wf.ex hv (Z.mono (fun z hz => by unfold wkQ at hz; unfold wkP; omega)) pv' (fun j j1 j2 => by rw [sl']; exact sl6 j (by omega) (by omega) (by omega) (by omega)), ⟨?_, fun z hz => ?_, fun z hz => ?_, fun z hz => ?_, ?_, ?_, ?_, fun j hj t _ => r3 j hj t⟩, ?_⟩
  · rw [sl', e13]; rfl
  · rw [r2.2.2.2 _ (by omega), g6 _ (by omega), g5 _ (by omega), g4 _ (by omega), g3 _ (by omega), g2 _ (by omega), f1]
    by_cases e : d = z
    · rw [← e, va_eq, c1 _ d hd]
    · rw [va_ne (Ne.symm e), g0 _ (by omega), aD z hz, c0 _ z (by rw [hd]; exact e)]
  · rw [r2.2.2.2 _ (by omega), g6 _ (by omega), g5 _ (by omega), g4 _ (by omega), g3 _ (by omega), f2]
    by_cases e : s = z
    · rw [← e, va_eq, c1 _ s hs]
    · rw [va_ne (Ne.symm e), g1 _ (by omega), g0 _ (by omega), aS z hz, c0 _ z (by rw [hs]; exact e)]
  · rw [r2.2.2.2 _ (by omega), g6 _ (by omega), g5 _ (by omega), g4 _ (by omega), f3]
    by_cases e : g = z
    · rw [← e, va_eq, c1 _ g kg]
    · rw [va_ne (Ne.symm e), g2 _ (by omega), g1 _ (by omega), g0 _ (by omega), aG z hz, c0 _ z (by rw [kg]; exact e)]
  · rw [sl', e14, cm _ d hd]
  · rw [sl', e15, cm _ s hs]
  · rw [sl', e16, cm _ g kg]
  · rw [r2.2.2.2 _ (by omega), oth _ (by omega) (by omega) (by omega) (by omega)]
/-- whether a walk takes a way in -/
def tkB (A : AV) (S : AS) (R : AR) (f : Nat) (mi : Bool) (u : Nat → Nat) : Bool := !mi || okd A R f (sb A S u f 0) (sb A S u f 1) (sbs A S u f)
theorem c_look (hN : 100 ≤ N) {f V v w : Nat} {u : Nat → Nat} {l : List (Nat → Nat)} {R : AR} {mi : Bool} {bs : Nat → Int32} {h : PH} (hv : x + 43 ≤ v) (hf : f < 1000) (wR : WR A R) (wf : WFx A R f V w mi bs h x v) (wa : WAc A S f V h x l) (wc : WCh A V h x 4 u) (ok : okU A u) (okl : okL A l) (hl : l.length ≤ 5000) : ∃ h', f_X8_look N (x + 23) (nI (sb A S u f 0)) (nI (sb A S u f 1)) h = some ((), h') ∧ Ex (wkQ x) h h' ∧ WFx A R f V w mi bs h' x v ∧ WAc A S f V h' x (if tkB A S R f mi u = true then u :: l else l) ∧ hI h' (x + 26) = hI h (x + 26) := by
  obtain ⟨wk, mt, pv, cR, r7, r8, e9, e10, e11, -, -⟩ := id wf
  have hW := pv.2.2.1
  have dl := sb_le A S u f 0
  have sl := sb_le A S u f 1
  have h6 := hW.1.2.2.2.1
  have l39 : f_X8_look_39 N (x + 23) (nI (sb A S u f 0)) (nI (sb A S u f 1)) (sbs A S u f) h = f_X8_look_50 N (nI (sgK A (sb A S u f 0) (sb A S u f 1))) (x + 23) (nI (sb A S u f 0)) (nI (sb A S u f 1)) h := by
    unfold f_X8_look_39 sbs
    rcases sgK_c hW (sb A S u f 0) (sb A S u f 1) with ⟨e1, e2⟩ | ⟨k, hk, e1, e2⟩
    · rw [e1, e2, if_pos rfl]
      rfl
    · rw [e1, e2, if_neg (fun z => by
        have := congrArg Int32.toInt z
        rw [nI_toInt (by omega), show (-1 : Int32).toInt = -1 by decide] at this
        omega)]
  have take : tkB A S R f mi u = true → ∃ h', f_X8_look_39 N (x + 23) (nI (sb A S u f 0)) (nI (sb A S u f 1)) (sbs A S u f) h = some ((), h') ∧ Ex (wkQ x) h h' ∧ WFx A R f V w mi bs h' x v ∧ WAc A S f V h' x (if tkB A S R f mi u = true then u :: l else l) ∧ hI h' (x + 26) = hI h (x + 26) := fun t => by
    rw [l39, if_pos t]
    exact c_lk50 hN hv wf wa wc ok okl hl
  unfold f_X8_look
  have so := c_signOf (N := N) hN pv.1 pv.2.1 hW (d := sb A S u f 0) (s := sb A S u f 1) (by omega) (by omega)
  rw [Nat.min_eq_left dl, Nat.min_eq_left sl] at so
  rw [ck_p wk.1, r7, rq_s, ck_p pv.1.1, so, cl_s, ck_p wk.1, e9, ite_i yb0]
  cases mi with
  | false =>
    rw [if_pos rfl]
    exact take rfl
  | true =>
    rw [if_neg (by decide), r8, rq_s, r7, rq_s, ck_p mt.1, e10, c_agrees (by omega) pv mt cR wR hf dl sl, cl_s, ite_i yb0]
    by_cases o : okd A R f (sb A S u f 0) (sb A S u f 1) (aSign A (sb A S u f 0) (sb A S u f 1)) = true
    · rw [if_neg (by rw [o]; decide)]
      exact take (by unfold tkB sbs; rw [o]; rfl)
    · rw [if_pos (by simpa using o), if_neg (by unfold tkB sbs; simpa using o)]
      exact ⟨h, rfl, Ex.rf, wf, wa, rfl⟩
end LK
