/-! Laws: how deep the reference goes while it works them. -/
def cOk (d c : Nat) : Prop := (c < 20 ∨ (20 ≤ c ∧ c ≤ 30 ∧ c ≠ 23) ∨ (100 ≤ c ∧ c < 10100)) ∧ (c = 29 → 1 ≤ d)
abbrev DO : Type := Nat × (Nat → Int32)
def dSp (p : DO) (c : Nat) : DO := if c = 28 then (p.1 + 1, va_up p.2 (p.1 + 1) 0) else if c = 30 then (p.1 + 1, va_up p.2 (p.1 + 1) 1) else if c = 29 then (popd p.2 (p.1 - 1), p.2) else if 20 ≤ c ∧ c ≤ 27 then p else (popd p.2 p.1, p.2)
def dR (R : List Nat) (p : DO) : DO := R.foldl dSp p
def dOk : List Nat → DO → Prop
  | [], p => p.1 ≤ 5
  | c :: R, p => p.1 ≤ 5 ∧ cOk p.1 c ∧ dOk R (dSp p c)
def HP (d : Nat) (R : List Nat) : Prop := ∀ o : Nat → Int32, dOk R (d, o) ∧ ∃ o', dR R (d, o) = (popd o d, o') ∧ ∀ j, j ≤ d → o' j = o j
def HB (d : Nat) (R : List Nat) : Prop := ∀ o : Nat → Int32, popd o d = d → dOk R (d, o) ∧ ∃ o', dR R (d, o) = (d, o') ∧ ∀ j, j ≤ d → o' j = o j
section HDP
variable {d c : Nat} {R R1 R2 : List Nat} {p : DO}
theorem dR_app : dR (R1 ++ R2) p = dR R2 (dR R1 p) := List.foldl_append
theorem dOk_app : ∀ {R1 : List Nat} {p : DO}, dOk R1 p → dOk R2 (dR R1 p) → dOk (R1 ++ R2) p
  | [], p, _, h => h
  | c :: R1, p, h, h2 => ⟨h.1, h.2.1, dOk_app h.2.2 h2⟩
theorem dOk_5 : ∀ {R : List Nat} {p : DO}, dOk R p → p.1 ≤ 5
  | [], p, h => h
  | c :: R, p, h => h.1
theorem dOk_e : ∀ {R : List Nat} {p : DO}, dOk R p → (dR R p).1 ≤ 5
  | [], p, h => h
  | c :: R, p, h => dOk_e (R := R) (p := dSp p c) h.2.2
theorem popd_le {r : Nat → Int32} : ∀ d, popd r d ≤ d
  | 0 => Nat.le_refl 0
  | d + 1 => by
    unfold popd
    split
    · exact Nat.le_succ_of_le (popd_le d)
    · exact Nat.le_refl _
theorem HP.b (h : HP d R) : HB d R := fun o b => by
  obtain ⟨h1, o', h2, h3⟩ := h o
  rw [b] at h2
  exact ⟨h1, o', h2, h3⟩
theorem HB.more (hc : 20 ≤ c ∧ c ≤ 27 ∧ c ≠ 23) (h1 : HB d R1) (h2 : HB d R2) : HB d (R1 ++ [c] ++ R2) := fun o b => by
  obtain ⟨a1, o1, a2, a3⟩ := h1 o b
  have b1 : popd o1 d = d := (popd_e d a3).trans b
  obtain ⟨c1, o2, c2, c3⟩ := h2 o1 b1
  have e : dR [c] (d, o1) = (d, o1) := by
    show dSp (d, o1) c = _
    unfold dSp
    rw [if_neg (by omega), if_neg (by omega), if_neg (by omega), if_pos (by omega)]
  refine ⟨dOk_app (dOk_app a1 ?_) ?_, o2, ?_, fun j hj => (c3 j hj).trans (a3 j hj)⟩
  · rw [a2]
    have e : dSp (d, o1) c = (d, o1) := e
    refine ⟨dOk_5 c1, ⟨Or.inr (Or.inl ⟨hc.1, by omega, hc.2.2⟩), fun z => by omega⟩, ?_⟩
    rw [e]
    exact dOk_5 c1
  · rw [dR_app, a2, e]; exact c1
  · rw [dR_app, dR_app, a2, e]; exact c2
theorem HP.one (hd : d ≤ 5) (hc : c < 20 ∨ (100 ≤ c ∧ c < 10100)) : HP d [c] := fun o => by
  have e : dSp (d, o) c = (popd o d, o) := by
    unfold dSp
    rw [if_neg (by omega), if_neg (by omega), if_neg (by omega), if_neg (by omega)]
  refine ⟨⟨hd, by unfold cOk; omega, ?_⟩, o, e, fun _ _ => rfl⟩
  rw [e]
  exact Nat.le_trans (popd_le d) hd
theorem HP.no (hd : d ≤ 5) (h : HP (d + 1) R) : HP d ([30] ++ R) := fun o => by
  have e : dSp (d, o) 30 = (d + 1, va_up o (d + 1) 1) := rfl
  obtain ⟨a1, o1, a2, a3⟩ := h (va_up o (d + 1) 1)
  have pe : popd (va_up o (d + 1) 1) (d + 1) = popd o d := by
    show (if va_up o (d + 1) 1 (d + 1) = 1 then _ else _) = _
    rw [va_eq, if_pos rfl]
    exact popd_e d (fun j hj => va_ne (by omega))
  rw [pe] at a2
  refine ⟨⟨hd, ⟨Or.inr (Or.inl ⟨by decide, by decide, by decide⟩), fun z => absurd z (by decide)⟩, by rw [e]; exact a1⟩, o1, ?_, fun j hj => (a3 j (by omega)).trans (va_ne (by omega))⟩
  rw [dR_app]
  show dR R (dSp (d, o) 30) = _
  rw [e]; exact a2
theorem HB.br (hd : d ≤ 5) (h : HB (d + 1) R) : HP d ([28] ++ R ++ [29]) := fun o => by
  have e : dSp (d, o) 28 = (d + 1, va_up o (d + 1) 0) := rfl
  have pe : popd (va_up o (d + 1) 0) (d + 1) = d + 1 := by
    show (if va_up o (d + 1) 0 (d + 1) = 1 then _ else _) = _
    rw [va_eq, if_neg (by decide)]
  obtain ⟨a1, o1, a2, a3⟩ := h (va_up o (d + 1) 0) pe
  have e2 : dSp (d + 1, o1) 29 = (popd o d, o1) := by
    show (popd o1 d, o1) = _
    rw [popd_e d (fun j hj => (a3 j (by omega)).trans (va_ne (by omega)) : ∀ j, j ≤ d → o1 j = o j)]
  have b1 : dOk ([28] ++ R) (d, o) := ⟨hd, ⟨Or.inr (Or.inl ⟨by decide, by decide, by decide⟩), fun z => absurd z (by decide)⟩, by rw [e]; exact a1⟩
  have b2 : dR ([28] ++ R) (d, o) = (d + 1, o1) := by
    rw [dR_app]
    show dR R (dSp (d, o) 28) = _
    rw [e]; exact a2
  refine ⟨dOk_app b1 ?_, o1, ?_, fun j hj => (a3 j (by omega)).trans (va_ne (by omega))⟩
  · rw [b2]
    refine ⟨(dOk_5 a1 : d + 1 ≤ 5), ⟨Or.inr (Or.inl ⟨by decide, by decide, by decide⟩), fun _ => Nat.le_add_left 1 d⟩, ?_⟩
    rw [e2]
    exact Nat.le_trans (popd_le d) hd
  · rw [dR_app, b2]
    exact e2
end HDP
def HPr (d : Nat) : List Int32 → List Nat → Prop := fun _ R => HP d R
def HBr (d : Nat) : List Int32 → List Nat → Prop := fun _ R => HB d R
section HGD
variable {X : TX} {o : Bool} {q q0 : QS} {P Q : QS → QS}
section LOOPS
variable {d : Nat}
theorem gPL_h (hP : ∀ q, q.1.2 ≤ X.1 → RsP X (HPr d) q (P q)) : ∀ n q, RsP X (HBr d) q0 q → RsP X (HBr d) q0 (gPL X P n q)
  | 0, q, h => h
  | n + 1, q, h => by
    unfold gPL
    by_cases c : sSg X q.1 42 = true
    · rw [if_pos c]
      exact gPL_h hP n _ (h.more (fun C1 R1 C2 R2 a b => HB.more (by decide) a b.b) (sSg_t c) hP)
    · rw [if_neg c]; exact h
theorem gProd_h (hP : ∀ q, q.1.2 ≤ X.1 → RsP X (HPr d) q (P q)) (l : q.1.2 ≤ X.1) : RsP X (HBr d) q (gProd X P q) := gPL_h hP 1000 _ ((hP q l).mono (fun C R a => a.b))
theorem gSL_h (hP : ∀ q, q.1.2 ≤ X.1 → RsP X (HPr d) q (P q)) : ∀ n q, RsP X (HBr d) q0 q → RsP X (HBr d) q0 (gSL X P n q)
  | 0, q, h => h
  | n + 1, q, h => by
    unfold gSL
    by_cases c : sSg X q.1 43 = true
    · rw [if_pos c]
      exact gSL_h hP n _ (h.more (fun C1 R1 C2 R2 a b => HB.more (by decide) a b) (sSg_t c) (fun q' l => gProd_h hP l))
    · rw [if_neg c]
      by_cases c2 : sSg X q.1 45 = true
      · rw [if_pos c2]
        exact gSL_h hP n _ (h.more (fun C1 R1 C2 R2 a b => HB.more (by decide) a b) (sSg_t c2) (fun q' l => gProd_h hP l))
      · rw [if_neg c2]; exact h
theorem gSum_h (hP : ∀ q, q.1.2 ≤ X.1 → RsP X (HPr d) q (P q)) (l : q.1.2 ≤ X.1) : RsP X (HBr d) q (gSum X P q) := gSL_h hP 1000 _ ((gProd_h hP l).mono (fun C R a => a))
theorem gTest_h (hP : ∀ q, q.1.2 ≤ X.1 → RsP X (HPr d) q (P q)) (l : q.1.2 ≤ X.1) : RsP X (HBr d) q (gTest X P q) := by
  have h := gSum_h hP l
  unfold gTest
  by_cases c : sSg X (gSum X P q).1 60 = true
  · rw [if_pos c]
    exact h.more (fun C1 R1 C2 R2 a b => HB.more (by decide) a b) (sSg_t c) (fun q' l => gSum_h hP l)
  · rw [if_neg c]
    by_cases c2 : sSg X (gSum X P q).1 61 = true
    · rw [if_pos c2]
      exact h.more (fun C1 R1 C2 R2 a b => HB.more (by decide) a b) (sSg_t c2) (fun q' l => gSum_h hP l)
    · rw [if_neg c2]
      exact h.mono (fun C R a => a)
theorem gTL_h (hP : ∀ q, q.1.2 ≤ X.1 → RsP X (HPr d) q (P q)) : ∀ n q, RsP X (HBr d) q0 q → RsP X (HBr d) q0 (gTL X P n q)
  | 0, q, h => h
  | n + 1, q, h => by
    unfold gTL
    by_cases c : sWd X q.1 20 = true
    · rw [if_pos c]
      exact gTL_h hP n _ (h.more (fun C1 R1 C2 R2 a b => HB.more (by decide) a b) (sWd_t c) (fun q' l => gTest_h hP l))
    · rw [if_neg c]
      by_cases c2 : sWd X q.1 21 = true
      · rw [if_pos c2]
        exact gTL_h hP n _ (h.more (fun C1 R1 C2 R2 a b => HB.more (by decide) a b) (sWd_t c2) (fun q' l => gTest_h hP l))
      · rw [if_neg c2]; exact h
theorem gTests_h (hP : ∀ q, q.1.2 ≤ X.1 → RsP X (HPr d) q (P q)) (l : q.1.2 ≤ X.1) : RsP X (HBr d) q (gTests X P q) := gTL_h hP 1000 _ ((gTest_h hP l).mono (fun C R a => a))
end LOOPS
theorem gPart_h : ∀ (e d : Nat) (q : QS), d + e ≤ 5 → q.1.2 ≤ X.1 → RsP X (HPr d) q (gPart X o e q)
  | 0, d, q, _, l => fun h => by
    exfalso
    have h : (if gBeg X o q.1 = true then (flt X 5 q.1, q.2) else (flt X 1 q.1, q.2) : QS).1.1 = 0 := h
    by_cases c : gBeg X o q.1 = true
    · rw [if_pos c] at h
      exact flt_n (by decide) h
    · rw [if_neg c] at h
      exact flt_n (by decide) h
  | e + 1, d, q, hde, l => by
    show RsP X _ q (if gBeg X o q.1 = true then _ else _)
    by_cases c : gBeg X o q.1 = true
    rotate_left
    · rw [if_neg c]
      exact fun h => absurd h (flt_n (by decide))
    have hs := gBeg_0 c
    rw [if_pos c]
    by_cases cn : sWd X q.1 19 = true
    · rw [if_pos cn]
      intro h
      rw [qC_0] at h
      have gt := xnx_gt' (sWd_t cn)
      have le := xnx_le (X := X) l
      have e1 : (qN X 30 q).1 = (0, xnx X q.1.2) := stp_0 hs
      obtain ⟨b1, C2, R2, b2, b3, b4, b5, b6, b7, b8, b9⟩ := gPart_h e (d + 1) (qN X 30 q) (by omega) (by rw [e1]; exact le) h
      rw [e1] at b6 b7
      have b6 : C2.length + xnx X q.1.2 ≤ (gPart X o e (qN X 30 q)).1.2 := b6
      have b7 : R2.length + xnx X q.1.2 ≤ (gPart X o e (qN X 30 q)).1.2 := b7
      refine ⟨hs, C2 ++ [-6], [30] ++ R2, ?_, ?_, by simp, by simp, ?_, ?_, ?_, HP.no (by omega) b9⟩
      · rw [qC_y h]
        show (gPart X o e (qN X 30 q)).2.1 ++ [-6] = _
        rw [b2, List.append_assoc]
        rfl
      · rw [qC_y h]
        show (gPart X o e (qN X 30 q)).2.2 = _
        rw [b3]
        show q.2.2 ++ [30] ++ R2 = _
        rw [List.append_assoc]
      · rw [qC_0]; simp; omega
      · rw [qC_0]; simp; omega
      · rw [qC_0]; exact b8
    rw [if_neg cn]
    by_cases co : sSg X q.1 40 = true
    · rw [if_pos co]
      intro h
      have gt := xnx_gt' (sSg_t co)
      have le := xnx_le (X := X) l
      have e1 : (qN X 28 q).1 = (0, xnx X q.1.2) := stp_0 hs
      have g := gTests_h (fun q' l' => gPart_h e (d + 1) q' (by omega) l') (q := qN X 28 q) (by rw [e1]; exact le)
      unfold gCl at h ⊢
      by_cases c41 : sSg X (gTests X (gPart X o e) (qN X 28 q)).1 41 = true
      rotate_left
      · rw [if_neg c41] at h
        exact absurd h (flt_n (by decide))
      rw [if_pos c41] at h ⊢
      have h1 := (sSg_i.mp c41).1
      obtain ⟨b1, C2, R2, b2, b3, b4, b5, b6, b7, b8, b9⟩ := g h1
      rw [e1] at b6 b7
      have b6 : C2.length + xnx X q.1.2 ≤ (gTests X (gPart X o e) (qN X 28 q)).1.2 := b6
      have b7 : R2.length + xnx X q.1.2 ≤ (gTests X (gPart X o e) (qN X 28 q)).1.2 := b7
      have gt2 := xnx_gt' (sSg_t c41)
      have le2 := xnx_le (X := X) b8
      have e2 : stp X (gTests X (gPart X o e) (qN X 28 q)).1 = (0, xnx X (gTests X (gPart X o e) (qN X 28 q)).1.2) := stp_0 h1
      refine ⟨hs, C2, [28] ++ R2 ++ [29], b2, ?_, b4, by simp, ?_, ?_, ?_, HB.br (by omega) b9⟩
      · show (gTests X (gPart X o e) (qN X 28 q)).2.2 ++ [29] = _
        rw [b3]
        show q.2.2 ++ [28] ++ R2 ++ [29] = _
        rw [List.append_assoc, List.append_assoc, List.append_assoc]
      · show C2.length + q.1.2 ≤ (stp X _).2
        rw [e2]
        show _ ≤ xnx X _
        omega
      · show ([28] ++ R2 ++ [29]).length + q.1.2 ≤ (stp X _).2
        rw [e2]
        simp
        omega
      · show (stp X _).2 ≤ X.1
        rw [e2]
        exact le2
    rw [if_neg co]
    have e1 : stp X q.1 = (0, xnx X q.1.2) := stp_0 hs
    have le := xnx_le (X := X) l
    by_cases cf : gFact X o q.1 = 0
    · rw [if_pos cf]
      have nu : sNu X q.1 = true := by
        rcases gBeg_i.mp c with w | w | w | w
        · exact absurd cf w
        · exact absurd w cn
        · exact absurd w co
        · exact w
      have t2 := (sNu_i.mp nu).2
      have gt := xnx_gt' (X := X) (p := q.1.2) (by omega)
      intro h
      refine ⟨hs, [nI (xnv X q.1.2)], [100 + xnv X q.1.2], rfl, rfl, by simp, by simp, ?_, ?_, ?_, HP.one (by omega) (Or.inr ⟨Nat.le_add_right _ _, by have := xnv_lt t2; omega⟩)⟩
      · show 1 + q.1.2 ≤ (stp X q.1).2
        rw [e1]; show 1 + q.1.2 ≤ xnx X q.1.2; omega
      · show 1 + q.1.2 ≤ (stp X q.1).2
        rw [e1]; show 1 + q.1.2 ≤ xnx X q.1.2; omega
      · show (stp X q.1).2 ≤ X.1
        rw [e1]; exact le
    · rw [if_neg cf]
      obtain ⟨f1, f2⟩ := gFact_i (X := X) (o := o) (s := q.1)
      obtain ⟨f3, f4, f5⟩ := f2 cf
      have gt := xnx_gt' (X := X) (p := q.1.2) (by omega)
      intro h
      refine ⟨hs, [gFc (gFact X o q.1)], [gFact X o q.1], rfl, rfl, by simp, by simp, ?_, ?_, ?_, HP.one (by omega) (Or.inl (by omega))⟩
      · show 1 + q.1.2 ≤ (stp X q.1).2
        rw [e1]; show 1 + q.1.2 ≤ xnx X q.1.2; omega
      · show 1 + q.1.2 ≤ (stp X q.1).2
        rw [e1]; show 1 + q.1.2 ≤ xnx X q.1.2; omega
      · show (stp X q.1).2 ≤ X.1
        rw [e1]; exact le
end HGD
