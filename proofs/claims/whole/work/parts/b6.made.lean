/-! The valley that was read: both sides have it. -/
section MAD
variable {N x y w v : Nat} {h h' : PH} {D : DV} {s : ZS} {o : Bool} {C : List Int32} {R : List Nat}
/-- what a law does not name does not matter -/
theorem lw_45 {E E' : Nat → Int32} (g : GTs o 5 0 C R) (ok : okE o E E') : lwV C (E 1) (E 2) (E 3) (E 4) (E 5) = lwV C (E' 1) (E' 2) (E' 3) (E' 4) (E' 5) := by
  have ok2 : okE o E' E' := ⟨rfl, rfl, rfl, fun _ => ⟨rfl, rfl⟩⟩
  obtain ⟨v1, a1, a2⟩ := g E E' ok
  obtain ⟨v2, b1, b2⟩ := g E' E' ok2
  have p1 : bsW (wOp (fun _ _ => 0) 0) 0 := Or.inl rfl
  have p2 : wOp (fun _ _ => 0) 0 24 0 = 0 := up2_self _ _ _ _
  have p3 : wOp (fun _ _ => 0) 0 21 0 = 0 := by decide
  have p4 : wOp (fun _ _ => 0) 0 22 0 = 20 := by decide
  have p5 : wOp (fun _ _ => 0) 0 20 0 = 0 := by decide
  have p6 : wOp (fun _ _ => 0) 0 18 0 = 0 := by decide
  obtain ⟨g1, c1, c2, -⟩ := a2 _ p1 p2 p3 p4 p5 p6
  obtain ⟨g2, d1, d2, -⟩ := b2 _ p1 p2 p3 p4 p5 p6
  have eg : g1 = g2 := by rw [c1] at d1; exact (Prod.mk.inj d1).2
  rw [lwV_c (a1 [] (by decide)), lwV_c (b1 [] (by decide)), ← c2, ← d2, eg]
def mkA (D : DV) : AV := (vC D, vD D, vS D, vB D, vF D, (fun k => vT D k - 1), vR D, vG D, vW D, (fun f l w b => clp (if (vL D 0).1 = [] then (if b = 0 then nI (vD D f) else nI (vS D f)) else lwV (vL D 0).1 (nI (vD D f)) (nI (vS D f)) (nI w) (nI l) (nI b))), fun d s w => clp (if (vL D 1).1 = [] then nI d else lwV (vL D 1).1 (nI d) (nI s) (nI w) 0 0))
theorem mk_WV (g : GD D s) : WV (mkA D) := by
  obtain ⟨⟨⟨w1, w1'⟩, w2, w3, w4, w5, w6, w7, w8⟩, -, -⟩ := g
  refine ⟨⟨w1 0 (by decide), w1 1 (by decide), w1 2 (by decide), w1 3 (by decide), w1 4 (by decide), w1'⟩, w2, w3, fun k hk => ?_, fun i f hi hf ho => ?_, w6, w7, w8, fun f l w b => clp_le _, fun d s w => clp_le _⟩
  · show vT D k - 1 ≤ 99
    have := w4 k hk
    omega
  · show vT D (5 * i + f) - 1 = 0
    rw [w5 i f hi hf ho]
theorem mk_VA (g : GD D s) (q : DC h w D) : VA h w (mkA D) := by
  obtain ⟨q0, q1, q2, q3, q4, q5, q6, q7, q8, ⟨q9, q10, q11, q12⟩, q13⟩ := q
  have W := mk_WV g
  have c0 : vC D 0 ≤ 5 := g.1.1.1 0 (by decide)
  refine ⟨q0.1, ⟨fun k hk => (q0.2 k hk).2.1, q1, q2, q3, q4, q6, q7, q8⟩, W, ⟨(vL D 0).1.length, (vL D 1).1.length, q9.1, q10.1, q9.2.1, q10.2.1, fun f l w' b hf hl hw hb => ?_, fun d s w' hd hs hw => ?_⟩, fun f l w' b hf h1 hl hw hb => Or.inl (q13 _ ?_)⟩
  · show clp _ = clp _
    congr 1
    by_cases c : (vL D 0).1 = []
    · rw [if_pos c, if_pos (show (vL D 0).1.length = 0 by rw [c]; rfl)]
      rfl
    · rw [if_neg c, if_neg (fun z => c (List.length_eq_zero_iff.mp z))]
      exact (lwV_e (fun k hk => q9.2.2 k hk)).symm
  · show clp _ = clp _
    congr 1
    by_cases c : (vL D 1).1 = []
    · rw [if_pos c, if_pos (show (vL D 1).1.length = 0 by rw [c]; rfl)]
    · rw [if_neg c, if_neg (fun z => c (List.length_eq_zero_iff.mp z))]
      exact (lwV_e (fun k hk => q10.2.2 k hk)).symm
  · have hf : f < vC D 0 := hf
    omega
/-- the reference's, laid -/
theorem mk_MV (g : GD D s) (q : DM h y D) (ly : LY y h h') : MV h' y (mkA D) := by
  obtain ⟨q0, q1, q2, q3, q4, q5, q6, q7, q8⟩ := q
  obtain ⟨l1, l2, l3, l4, l5, l6, r4, r5, r6, r7, r8, r9, r10, r11, r14⟩ := ly
  obtain ⟨⟨⟨w1, w1'⟩, w2, w3, w4, w5, w6, w7, w8⟩, -, -⟩ := g
  have c0 : vC D 0 ≤ 5 := w1 0 (by decide)
  have c2 : vC D 2 ≤ 4 := w1 2 (by decide)
  have c3 : vC D 3 ≤ 6 := w1 3 (by decide)
  have c4 : vC D 4 ≤ 4 := w1 4 (by decide)
  refine ⟨fun k hk => ?_, fun k hk => ?_, fun k hk => ?_, fun i f hi hf => ?_, fun k hk => ?_, fun k hk => ?_, fun k hk => ?_⟩
  · rw [l5 k hk]
    by_cases e : k = 5
    · rw [e]; exact q1
    · have := (q0.2 k (by omega)).2.1
      rw [Nat.mul_one] at this
      exact this
  · have hk : k < vC D 0 := hk
    rw [r4 k (by omega), r5 k (by omega), r6 k (by omega)]
    exact q2 k hk
  · have hk : k < vC D 2 := hk
    rw [r7 k (by omega)]
    exact q3 k hk
  · have hi : i < vC D 2 := hi
    rw [r8 _ (by omega), q4 i f hi hf]
    show nI (vT D (5 * i + f)) + (-1) = nI (vT D (5 * i + f) - 1) ∨ _
    cases e : vT D (5 * i + f) with
    | zero => exact Or.inr ⟨by decide, by show vT D (5 * i + f) - 1 = 0; rw [e]⟩
    | succ n => exact Or.inl nI_p
  · have hk : k < 4 * vC D 3 := hk
    rw [r9 k (by omega)]
    exact q5 k hk
  · have hk : k < vC D 4 := hk
    rw [r10 k (by omega)]
    exact q6 k hk
  · have hk : k < vC D 5 := hk
    rw [r11 k (by omega)]
    exact q7 k hk
theorem mk_MW (hN : 2000 ≤ N) {l f0 : Nat} (hl : l < 2) (g : GD D s) (k0 : 1000 ≤ f0) (le : f0 + (vL D l).2.length ≤ 2000) (codes : ∀ k, k < (vL D l).2.length → hI h (y + 14) (f0 + k) = nI ((vL D l).2.getD k 0)) (ly : LY y h h') (e12 : hI h' (y + 12) l = nI (f0 - 1000)) (e13 : hI h' (y + 13) l = nI (f0 + (vL D l).2.length - 1000)) (c : (vL D l).1 ≠ []) : MW N h' y l (lwV (vL D l).1) := by
  intro h1 a12 a13 a14 M
  obtain ⟨g1, g2⟩ := (g.2.1 l hl).2 c
  have r14 := ly.2.2.2.2.2.2.2.2.2.2.2.2.2.2
  exact m_worked (f0 := f0 - 1000) hN M (by omega) (a12.trans e12) (by rw [a13, e13, show f0 + (vL D l).2.length - 1000 = f0 - 1000 + (vL D l).2.length by omega]) (by omega) (by omega) (fun k hk => by
    rw [a14 _ (by omega), r14 _ (by omega), show 1000 + (f0 - 1000 + k) = f0 + k by omega]
    exact codes k hk) g2 g1
end MAD
