/-! Laws: what is read is good. -/
def RsP (X : TX) (G : List Int32 → List Nat → Prop) (q q' : QS) : Prop := q'.1.1 = 0 → (q.1.1 = 0 ∧ ∃ C R, q'.2.1 = q.2.1 ++ C ∧ q'.2.2 = q.2.2 ++ R ∧ 1 ≤ C.length ∧ 1 ≤ R.length ∧ C.length + q.1.2 ≤ q'.1.2 ∧ R.length + q.1.2 ≤ q'.1.2 ∧ q'.1.2 ≤ X.1 ∧ G C R)
section LGD
variable {X : TX} {o : Bool} {q q0 : QS} {P Q : QS → QS}
theorem RsP.mono {G G' : List Int32 → List Nat → Prop} {q' : QS} (h : ∀ C R, G C R → G' C R) (a : RsP X G q q') : RsP X G' q q' := fun e => by
  obtain ⟨a1, C, R, a2, a3, a4, a5, a6, a7, a8, a9⟩ := a e
  exact ⟨a1, C, R, a2, a3, a4, a5, a6, a7, a8, h C R a9⟩
theorem qC_0 {c : Int32} : (qC c q).1 = q.1 := by
  unfold qC
  split <;> rfl
theorem qC_y {c : Int32} (h : q.1.1 = 0) : qC c q = (q.1, q.2.1 ++ [c], q.2.2) := if_pos h
theorem qC_n {c : Int32} (h : q.1.1 ≠ 0) : qC c q = q := if_neg h
theorem RsP.more {G1 G2 G : List Int32 → List Nat → Prop} {k : Int32} {r : Nat} (hG : ∀ C1 R1 C2 R2, G1 C1 R1 → G2 C2 R2 → G (C1 ++ C2 ++ [k]) (R1 ++ [r] ++ R2)) (a : RsP X G1 q0 q) (ht : xty X q.1.2 ≠ 0) (b : ∀ q', q'.1.2 ≤ X.1 → RsP X G2 q' (Q q')) : RsP X G q0 (qC k (Q (qN X r q))) := fun e => by
  rw [qC_0] at e
  by_cases hq : q.1.1 = 0
  · obtain ⟨a1, C1, R1, a2, a3, a4, a5, a6, a7, a8, a9⟩ := a hq
    have gt := xnx_gt' ht
    have le := xnx_le (X := X) a8
    have e1 : (qN X r q).1 = (0, xnx X q.1.2) := stp_0 hq
    obtain ⟨b1, C2, R2, b2, b3, b4, b5, b6, b7, b8, b9⟩ := b (qN X r q) (by rw [e1]; exact le) e
    rw [e1] at b6 b7
    have b6 : C2.length + xnx X q.1.2 ≤ (Q (qN X r q)).1.2 := b6
    have b7 : R2.length + xnx X q.1.2 ≤ (Q (qN X r q)).1.2 := b7
    refine ⟨a1, C1 ++ C2 ++ [k], R1 ++ [r] ++ R2, ?_, ?_, ?_, ?_, ?_, ?_, ?_, hG _ _ _ _ a9 b9⟩
    · rw [qC_y e]
      show (Q (qN X r q)).2.1 ++ [k] = _
      rw [b2]
      show q.2.1 ++ C2 ++ [k] = _
      rw [a2, List.append_assoc, List.append_assoc, List.append_assoc]
    · rw [qC_y e]
      show (Q (qN X r q)).2.2 = _
      rw [b3]
      show q.2.2 ++ [r] ++ R2 = _
      rw [a3, List.append_assoc, List.append_assoc, List.append_assoc]
    · simp; omega
    · simp; omega
    · rw [qC_0]; simp; omega
    · rw [qC_0]; simp; omega
    · rw [qC_0]; exact b8
  · exfalso
    have e1 : (qN X r q).1 = q.1 := stp_z hq
    by_cases l : q.1.2 ≤ X.1
    · have := (b (qN X r q) (by rw [e1]; exact l) e).1
      rw [e1] at this
      exact hq this
    · have := xbg_ge (X := X) (p := q.1.2)
      have t0 := (xs_0 (X := X) (p := q.1.2) (by omega)).1
      exact ht t0
theorem sSg_t {s : ZS} {c : Nat} (h : sSg X s c = true) : xty X s.2 ≠ 0 := by
  have := (sSg_i.mp h).2.1
  omega
theorem sWd_t {s : ZS} {i : Nat} (h : sWd X s i = true) : xty X s.2 ≠ 0 := by
  have := (sWd_i.mp h).2.1
  omega
section LOOPS
variable {e d : Nat}
theorem gPL_g (hP : ∀ q, q.1.2 ≤ X.1 → RsP X (GP o e d) q (P q)) : ∀ n q, RsP X (GPr o e d) q0 q → RsP X (GPr o e d) q0 (gPL X P n q)
  | 0, q, h => h
  | n + 1, q, h => by
    unfold gPL
    by_cases c : sSg X q.1 42 = true
    · rw [if_pos c]
      exact gPL_g hP n _ (h.more (fun C1 R1 C2 R2 a b => a.more b) (sSg_t c) hP)
    · rw [if_neg c]; exact h
theorem gProd_g (hP : ∀ q, q.1.2 ≤ X.1 → RsP X (GP o e d) q (P q)) (l : q.1.2 ≤ X.1) : RsP X (GPr o e d) q (gProd X P q) := gPL_g hP 1000 _ ((hP q l).mono (fun C R a => a.pr))
theorem gSL_g (hP : ∀ q, q.1.2 ≤ X.1 → RsP X (GP o e d) q (P q)) : ∀ n q, RsP X (GSu o e d) q0 q → RsP X (GSu o e d) q0 (gSL X P n q)
  | 0, q, h => h
  | n + 1, q, h => by
    unfold gSL
    by_cases c : sSg X q.1 43 = true
    · rw [if_pos c]
      exact gSL_g hP n _ (h.more (fun C1 R1 C2 R2 a b => GSu.more (Or.inl ⟨rfl, rfl⟩) a b) (sSg_t c) (fun q' l => gProd_g hP l))
    · rw [if_neg c]
      by_cases c2 : sSg X q.1 45 = true
      · rw [if_pos c2]
        exact gSL_g hP n _ (h.more (fun C1 R1 C2 R2 a b => GSu.more (Or.inr ⟨rfl, rfl⟩) a b) (sSg_t c2) (fun q' l => gProd_g hP l))
      · rw [if_neg c2]; exact h
theorem gSum_g (hP : ∀ q, q.1.2 ≤ X.1 → RsP X (GP o e d) q (P q)) (l : q.1.2 ≤ X.1) : RsP X (GSu o e d) q (gSum X P q) := gSL_g hP 1000 _ ((gProd_g hP l).mono (fun C R a => a.su))
theorem gTest_g (hP : ∀ q, q.1.2 ≤ X.1 → RsP X (GP o e d) q (P q)) (l : q.1.2 ≤ X.1) : RsP X (GTe o e d) q (gTest X P q) := by
  have h := gSum_g hP l
  unfold gTest
  by_cases c : sSg X (gSum X P q).1 60 = true
  · rw [if_pos c]
    exact h.more (fun C1 R1 C2 R2 a b => GSu.cmp (Or.inl ⟨rfl, rfl⟩) a b) (sSg_t c) (fun q' l => gSum_g hP l)
  · rw [if_neg c]
    by_cases c2 : sSg X (gSum X P q).1 61 = true
    · rw [if_pos c2]
      exact h.more (fun C1 R1 C2 R2 a b => GSu.cmp (Or.inr ⟨rfl, rfl⟩) a b) (sSg_t c2) (fun q' l => gSum_g hP l)
    · rw [if_neg c2]
      exact h.mono (fun C R a => a.te)
theorem gTL_g (hP : ∀ q, q.1.2 ≤ X.1 → RsP X (GP o e d) q (P q)) : ∀ n q, RsP X (GTs o e d) q0 q → RsP X (GTs o e d) q0 (gTL X P n q)
  | 0, q, h => h
  | n + 1, q, h => by
    unfold gTL
    by_cases c : sWd X q.1 20 = true
    · rw [if_pos c]
      exact gTL_g hP n _ (h.more (fun C1 R1 C2 R2 a b => GTs.more (Or.inl ⟨rfl, rfl⟩) a b) (sWd_t c) (fun q' l => gTest_g hP l))
    · rw [if_neg c]
      by_cases c2 : sWd X q.1 21 = true
      · rw [if_pos c2]
        exact gTL_g hP n _ (h.more (fun C1 R1 C2 R2 a b => GTs.more (Or.inr ⟨rfl, rfl⟩) a b) (sWd_t c2) (fun q' l => gTest_g hP l))
      · rw [if_neg c2]; exact h
theorem gTests_g (hP : ∀ q, q.1.2 ≤ X.1 → RsP X (GP o e d) q (P q)) (l : q.1.2 ≤ X.1) : RsP X (GTs o e d) q (gTests X P q) := gTL_g hP 1000 _ ((gTest_g hP l).mono (fun C R a => a.ts))
end LOOPS
theorem gFact_i {s : ZS} : gFact X o s ≤ 5 ∧ (gFact X o s ≠ 0 → s.1 = 0 ∧ xty X s.2 = 1 ∧ (o = true ∨ gFact X o s ≤ 3)) := by
  unfold gFact
  by_cases c1 : sWd X s 22 = true
  · rw [if_pos c1]; exact ⟨by decide, fun _ => ⟨(sWd_i.mp c1).1, (sWd_i.mp c1).2.1, Or.inr (by decide)⟩⟩
  rw [if_neg c1]
  by_cases c2 : sWd X s 23 = true
  · rw [if_pos c2]; exact ⟨by decide, fun _ => ⟨(sWd_i.mp c2).1, (sWd_i.mp c2).2.1, Or.inr (by decide)⟩⟩
  rw [if_neg c2]
  by_cases c3 : sWd X s 24 = true
  · rw [if_pos c3]; exact ⟨by decide, fun _ => ⟨(sWd_i.mp c3).1, (sWd_i.mp c3).2.1, Or.inr (by decide)⟩⟩
  rw [if_neg c3]
  by_cases c4 : o = true ∧ sWd X s 25 = true
  · rw [if_pos c4]; exact ⟨by decide, fun _ => ⟨(sWd_i.mp c4.2).1, (sWd_i.mp c4.2).2.1, Or.inl c4.1⟩⟩
  rw [if_neg c4]
  by_cases c5 : o = true ∧ sWd X s 26 = true
  · rw [if_pos c5]; exact ⟨by decide, fun _ => ⟨(sWd_i.mp c5.2).1, (sWd_i.mp c5.2).2.1, Or.inl c5.1⟩⟩
  rw [if_neg c5]
  exact ⟨by decide, fun z => absurd rfl z⟩
theorem gBeg_i {s : ZS} : gBeg X o s = true ↔ (gFact X o s ≠ 0 ∨ sWd X s 19 = true ∨ sSg X s 40 = true ∨ sNu X s = true) := by
  unfold gBeg
  rw [Bool.or_eq_true, Bool.or_eq_true, Bool.or_eq_true, decide_eq_true_eq, or_assoc, or_assoc]
theorem gBeg_0 {s : ZS} (h : gBeg X o s = true) : s.1 = 0 := by
  rcases gBeg_i.mp h with h | h | h | h
  · exact (gFact_i.2 h).1
  · exact (sWd_i.mp h).1
  · exact (sSg_i.mp h).1
  · exact (sNu_i.mp h).1
theorem gPart_z : ∀ e, q.1.1 ≠ 0 → gPart X o e q = q
  | 0, h => by
    show (if gBeg X o q.1 = true then _ else _) = _
    rw [if_neg (fun z => h (gBeg_0 z)), flt_z h]
  | e + 1, h => by
    show (if gBeg X o q.1 = true then _ else _) = _
    rw [if_neg (fun z => h (gBeg_0 z)), flt_z h]
theorem gPart_g : ∀ (e d : Nat) (q : QS), q.1.2 ≤ X.1 → RsP X (GP o e d) q (gPart X o e q)
  | 0, d, q, l => fun h => by
    exfalso
    have h : (if gBeg X o q.1 = true then (flt X 5 q.1, q.2) else (flt X 1 q.1, q.2) : QS).1.1 = 0 := h
    by_cases c : gBeg X o q.1 = true
    · rw [if_pos c] at h
      exact flt_n (by decide) h
    · rw [if_neg c] at h
      exact flt_n (by decide) h
  | e + 1, d, q, l => by
    show RsP X _ q (if gBeg X o q.1 = true then _ else _)
    by_cases c : gBeg X o q.1 = true
    rotate_left
    · rw [if_neg c]
      exact fun h => absurd h (flt_n (by decide))
    have hs := gBeg_0 c
    rw [if_pos c]
    by_cases cn : sWd X q.1 19 = true
    · rw [if_pos cn]
      intro h
      rw [qC_0] at h
      have gt := xnx_gt' (sWd_t cn)
      have le := xnx_le (X := X) l
      have e1 : (qN X 30 q).1 = (0, xnx X q.1.2) := stp_0 hs
      obtain ⟨b1, C2, R2, b2, b3, b4, b5, b6, b7, b8, b9⟩ := gPart_g e (d + 1) (qN X 30 q) (by rw [e1]; exact le) h
      rw [e1] at b6 b7
      have b6 : C2.length + xnx X q.1.2 ≤ (gPart X o e (qN X 30 q)).1.2 := b6
      have b7 : R2.length + xnx X q.1.2 ≤ (gPart X o e (qN X 30 q)).1.2 := b7
      refine ⟨hs, C2 ++ [-6], [30] ++ R2, ?_, ?_, by simp, by simp, ?_, ?_, ?_, b9.no⟩
      · rw [qC_y h]
        show (gPart X o e (qN X 30 q)).2.1 ++ [-6] = _
        rw [b2, List.append_assoc]
        rfl
      · rw [qC_y h]
        show (gPart X o e (qN X 30 q)).2.2 = _
        rw [b3]
        show q.2.2 ++ [30] ++ R2 = _
        rw [List.append_assoc]
      · rw [qC_0]; simp; omega
      · rw [qC_0]; simp; omega
      · rw [qC_0]; exact b8
    rw [if_neg cn]
    by_cases co : sSg X q.1 40 = true
    · rw [if_pos co]
      intro h
      have gt := xnx_gt' (sSg_t co)
      have le := xnx_le (X := X) l
      have e1 : (qN X 28 q).1 = (0, xnx X q.1.2) := stp_0 hs
      have g := gTests_g (fun q' l' => gPart_g e (d + 1) q' l') (q := qN X 28 q) (by rw [e1]; exact le)
      unfold gCl at h ⊢
      by_cases c41 : sSg X (gTests X (gPart X o e) (qN X 28 q)).1 41 = true
      rotate_left
      · rw [if_neg c41] at h
        exact absurd h (flt_n (by decide))
      rw [if_pos c41] at h ⊢
      have h1 := (sSg_i.mp c41).1
      obtain ⟨b1, C2, R2, b2, b3, b4, b5, b6, b7, b8, b9⟩ := g h1
      rw [e1] at b6 b7
      have b6 : C2.length + xnx X q.1.2 ≤ (gTests X (gPart X o e) (qN X 28 q)).1.2 := b6
      have b7 : R2.length + xnx X q.1.2 ≤ (gTests X (gPart X o e) (qN X 28 q)).1.2 := b7
      have gt2 := xnx_gt' (sSg_t c41)
      have le2 := xnx_le (X := X) b8
      have e2 : stp X (gTests X (gPart X o e) (qN X 28 q)).1 = (0, xnx X (gTests X (gPart X o e) (qN X 28 q)).1.2) := stp_0 h1
      refine ⟨hs, C2, [28] ++ R2 ++ [29], b2, ?_, b4, by simp, ?_, ?_, ?_, b9.part⟩
      · show (gTests X (gPart X o e) (qN X 28 q)).2.2 ++ [29] = _
        rw [b3]
        show q.2.2 ++ [28] ++ R2 ++ [29] = _
        rw [List.append_assoc, List.append_assoc, List.append_assoc]
      · show C2.length + q.1.2 ≤ (stp X _).2
        rw [e2]
        show _ ≤ xnx X _
        omega
      · show ([28] ++ R2 ++ [29]).length + q.1.2 ≤ (stp X _).2
        rw [e2]
        simp
        omega
      · show (stp X _).2 ≤ X.1
        rw [e2]
        exact le2
    rw [if_neg co]
    have e1 : stp X q.1 = (0, xnx X q.1.2) := stp_0 hs
    have le := xnx_le (X := X) l
    by_cases cf : gFact X o q.1 = 0
    · rw [if_pos cf]
      have nu : sNu X q.1 = true := by
        rcases gBeg_i.mp c with w | w | w | w
        · exact absurd cf w
        · exact absurd w cn
        · exact absurd w co
        · exact w
      have t2 := (sNu_i.mp nu).2
      have gt := xnx_gt' (X := X) (p := q.1.2) (by omega)
      intro h
      refine ⟨hs, [nI (xnv X q.1.2)], [100 + xnv X q.1.2], rfl, rfl, by simp, by simp, ?_, ?_, ?_, GP.num (xnv_lt t2)⟩
      · show 1 + q.1.2 ≤ (stp X q.1).2
        rw [e1]; show 1 + q.1.2 ≤ xnx X q.1.2; omega
      · show 1 + q.1.2 ≤ (stp X q.1).2
        rw [e1]; show 1 + q.1.2 ≤ xnx X q.1.2; omega
      · show (stp X q.1).2 ≤ X.1
        rw [e1]; exact le
    · rw [if_neg cf]
      obtain ⟨f1, f2⟩ := gFact_i (X := X) (o := o) (s := q.1)
      obtain ⟨f3, f4, f5⟩ := f2 cf
      have gt := xnx_gt' (X := X) (p := q.1.2) (by omega)
      intro h
      refine ⟨hs, [gFc (gFact X o q.1)], [gFact X o q.1], rfl, rfl, by simp, by simp, ?_, ?_, ?_, GP.fact ⟨by omega, f1⟩ f5⟩
      · show 1 + q.1.2 ≤ (stp X q.1).2
        rw [e1]; show 1 + q.1.2 ≤ xnx X q.1.2; omega
      · show 1 + q.1.2 ≤ (stp X q.1).2
        rw [e1]; show 1 + q.1.2 ≤ xnx X q.1.2; omega
      · show (stp X q.1).2 ≤ X.1
        rw [e1]; exact le
end LGD
