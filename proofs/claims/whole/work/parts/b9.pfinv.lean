/-! What reading leaves of the valley that stands. -/
section PFI
variable {N y v w : Nat} {A : AV} {h h' : PH}
theorem Pf.r (g : Pf y h h') {j k : Nat} (h1 : 2 ≤ j) (h2 : j ≤ 14) (hk : k < hfn j) : hI h' (y + j) k = hI h (y + j) k := (g.2.2.2.1 j k h1 h2 hk).1
theorem MV.pf (g : Pf y h h') (W : WV A) (p : MV h y A) : MV h' y A := by
  obtain ⟨⟨w0, w1, w2, w3, w4, w5⟩, -⟩ := W
  obtain ⟨p1, p2, p3, p4, p5, p6, p7⟩ := p
  refine ⟨fun k hk => ?_, fun k hk => ?_, fun k hk => ?_, fun i f hi hf => ?_, fun k hk => ?_, fun k hk => ?_, fun k hk => ?_⟩
  · rw [g.r (by decide) (by decide) (show k < 6 from hk)]; exact p1 k hk
  · rw [g.r (by decide) (by decide) (show k < 5 by omega), g.r (by decide) (by decide) (show k < 5 by omega), g.r (by decide) (by decide) (show k < 5 by omega)]; exact p2 k hk
  · rw [g.r (by decide) (by decide) (show k < 4 by omega)]; exact p3 k hk
  · rw [g.r (by decide) (by decide) (show 5 * i + f < 20 by omega)]; exact p4 i f hi hf
  · rw [g.r (by decide) (by decide) (show k < 24 by omega)]; exact p5 k hk
  · rw [g.r (by decide) (by decide) (show k < 4 by omega)]; exact p6 k hk
  · rw [g.r (by decide) (by decide) (show k < 12 by omega)]; exact p7 k hk
theorem MW.pf {l : Nat} (hl : l < 2) {W : Int32 → Int32 → Int32 → Int32 → Int32 → Int32} (g : Pf y h h') (p : MW N h y l W) : MW N h' y l W := fun h1 a b c M => p h1 (a.trans (g.r (by decide) (by decide) (show l < 2 from hl))) (b.trans (g.r (by decide) (by decide) (show l < 2 from hl))) (fun k hk => (c k hk).trans (g.r (by decide) (by decide) (show k < 1000 from hk))) M
theorem MA.pf (g : Pf y h h') (p : MA N h y A) : MA N h' y A := by
  obtain ⟨M, mv, W, f0, t0, f1, t1, Wg, Ws, l1, l2, l3, l4, l5, l6, l7, l8, l9⟩ := p
  exact ⟨M.sm g.1, mv.pf g W, W, f0, t0, f1, t1, Wg, Ws, l1, (g.r (by decide) (by decide) (by decide)).trans l2, (g.r (by decide) (by decide) (by decide)).trans l3, (g.r (by decide) (by decide) (by decide)).trans l4, (g.r (by decide) (by decide) (by decide)).trans l5, fun c => (l6 c).pf (by decide) g, fun c => (l7 c).pf (by decide) g, l8, l9⟩
theorem NM.pf (g : Pf y h h') (W : WV A) (e : hJ h' (v + 2) = hJ h (v + 2)) (p : NM h v y A) : NM h' v y A := fun k i hk hi => by
  obtain ⟨⟨w0, w1, w2, w3, w4, w5⟩, -⟩ := W
  obtain ⟨n, c, p1, p2, p3, p4, p5⟩ := p k i hk hi
  have b : fN k + i < 22 := by
    have := fN_mk k
    unfold mk5 at this
    rcases (show k = 0 ∨ k = 1 ∨ k = 2 ∨ k = 3 ∨ k = 4 by omega) with rfl | rfl | rfl | rfl | rfl <;> simp at this <;> omega
  exact ⟨n, c, p1, p2, p3, by rw [e]; exact p4, ((g.2.2.2.1 3 (fN k + i) (by decide) (by decide) b).2).trans p5⟩
end PFI
