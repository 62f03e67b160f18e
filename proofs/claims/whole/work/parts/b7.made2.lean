/-! The reference lays the valley that was read. -/
section MAE
variable {N x y w v : Nat} {h h' : PH} {D : DV} {s : ZS}
theorem lw_soot (g : GD D s) (c : (vL D 1).1 ≠ []) (a b e x4 x5 : Int32) : lwV (vL D 1).1 a b e 0 0 = lwV (vL D 1).1 a b e x4 x5 := by
  have gt := ((g.2.1 1 (by decide)).2 c).1
  exact lw_45 (E := fun k => if k = 1 then a else if k = 2 then b else if k = 3 then e else 0) (E' := fun k => if k = 1 then a else if k = 2 then b else if k = 3 then e else if k = 4 then x4 else x5) gt ⟨rfl, rfl, rfl, fun z => absurd z (by decide)⟩
theorem le_aux {f n : Nat} (h : 1000 ≤ f) : f - 1000 < f + n - 1000 ↔ ¬ n = 0 := by omega
theorem mk_lay (hN : 2000 ≤ N) (g : GD D s) (q : DM h y D) : ∃ h', f_X11_lays N y h = some ((), h') ∧ LY y h h' ∧ MA N h' y (mkA D) := by
  have q' := q
  obtain ⟨q0, -, -, -, -, -, -, -, cd, q8, q9, q10, ⟨f0, p1, p2, p3, p4, p5⟩, ⟨f1, r1, r2, r3, r4, r5⟩⟩ := q'
  obtain ⟨h', a1, a2, a3, a4, a5, a6⟩ := m_lays hN q0.1 p1 r1 (show 1000 ≤ f0 + (vL D 0).2.length by omega) (show 1000 ≤ f1 + (vL D 1).2.length by omega) p3 r3 p4 r4
  have M' := q0.1.sm a2.1
  have i0 := (g.2.1 0 (by decide)).1
  have i1 := (g.2.1 1 (by decide)).1
  have c0 : f0 - 1000 < f0 + (vL D 0).2.length - 1000 ↔ (vL D 0).1 ≠ [] := (le_aux p1).trans ((not_congr (List.length_eq_zero_iff.trans i0.symm)))
  have c1 : f1 - 1000 < f1 + (vL D 1).2.length - 1000 ↔ (vL D 1).1 ≠ [] := (le_aux r1).trans ((not_congr (List.length_eq_zero_iff.trans i1.symm)))
  refine ⟨h', a1, a2, M', mk_MV g q a2, mk_WV g, f0 - 1000, f0 + (vL D 0).2.length - 1000, f1 - 1000, f1 + (vL D 1).2.length - 1000, lwV (vL D 0).1, lwV (vL D 1).1, ⟨by omega, by omega, by omega, by omega⟩, a3, a5, a4, a6, fun c => mk_MW hN (by decide) g p1 (by omega) p5 a2 a3 a5 (c0.mp c), fun c => mk_MW hN (by decide) g r1 (by omega) r5 a2 a4 a6 (c1.mp c), fun f l w' b hf hl hw hb => ?_, fun d s' w' x4 x5 hd hs hw => ?_⟩
  · refine congrArg clp ?_
    by_cases c : (vL D 0).1 = []
    · rw [if_pos c, if_pos (Nat.le_of_not_lt (fun z => c0.mp z c))]
      rfl
    · rw [if_neg c, if_neg (Nat.not_le_of_lt (c0.mpr c))]
      rfl
  · refine congrArg clp ?_
    by_cases c : (vL D 1).1 = []
    · rw [if_pos c, if_pos (Nat.le_of_not_lt (fun z => c1.mp z c))]
    · rw [if_neg c, if_neg (Nat.not_le_of_lt (c1.mpr c))]
      exact lw_soot g c _ _ _ _ _
/-- names -/
theorem mk_NM (q : NmC h w (vC D) (vN D)) (q2 : NmM h y 1 (vC D) (vN D)) (ly : LY y h h') (eJ : hJ h' (w + 2) = hJ h (w + 2)) : NM h' w y (mkA D) := fun k i hk hi => by
  have hi : i < vC D k := hi
  obtain ⟨c1, c2, c3⟩ := q.2 k hk
  obtain ⟨d1, d2, d3⟩ := q2.2 k hk
  obtain ⟨wn, e1⟩ := c3 i hi
  obtain ⟨-, e2⟩ := d3 i hi
  obtain ⟨n, n1, n8, hw3⟩ := wn
  have mk := fN_mk k
  refine ⟨n, vN D k i, n1, n8, hw3, by rw [eJ]; exact e1, ?_⟩
  rw [ly.2.2.2.2.2.1 (fN k + i) (by omega), ← Wrd.u hw3 n8]
  rw [Nat.mul_one] at e2
  exact e2
end MAE
