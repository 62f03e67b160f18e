/-! Shapes of the class's object and the reference's, and what carries them from heap to heap. -/
/-- kinds, lengths, references and constants stay, but for the slots that hold what a tape, a walk and a speller look at -/
def Shp (x : Nat) (h h' : PH) : Prop := hW h' = hW h ∧ hz h ≤ hz h' ∧ (∀ z, z < hz h → hK h' z = hK h z ∧ hN h' z = hN h z) ∧ ∀ z k, z < hz h → (z = x + 1 → k < 7) → (z = x + 23 → k < 7) → (z = x + 31 → k < 9) → hR h' z k = hR h z k
theorem Shp.rf {x : Nat} {h : PH} : Shp x h h := ⟨rfl, Nat.le_refl _, fun _ _ => ⟨rfl, rfl⟩, fun _ _ _ _ _ _ => rfl⟩
theorem Shp.trans {x : Nat} {h h1 h2 : PH} (p : Shp x h h1) (q : Shp x h1 h2) : Shp x h h2 := ⟨q.1.trans p.1, Nat.le_trans p.2.1 q.2.1, fun z hz => ⟨(q.2.2.1 z (Nat.lt_of_lt_of_le hz p.2.1)).1.trans (p.2.2.1 z hz).1, (q.2.2.1 z (Nat.lt_of_lt_of_le hz p.2.1)).2.trans (p.2.2.1 z hz).2⟩, fun z k hz a b c => (q.2.2.2 z k (Nat.lt_of_lt_of_le hz p.2.1) a b c).trans (p.2.2.2 z k hz a b c)⟩
theorem Sm.shp {x : Nat} {h h' : PH} (s : Sm h h') (e : hz h' = hz h) : Shp x h h' := ⟨s.2.2.2, Nat.le_of_eq e.symm, fun z _ => ⟨by rw [s.1], by rw [s.2.1]⟩, fun z k _ _ _ _ => by rw [s.2.2.1]⟩
theorem Ex.shp {P : Nat → Prop} {x : Nat} {h h' : PH} (e : Ex P h h') : Shp x h h' := e.1.shp e.2.1
theorem Gx.shp {x a : Nat} {h h' : PH} (g : Gx a h h') : Shp x h h' := g.1.shp g.2.1
theorem Shp.sR {x : Nat} {h : PH} {a k : Nat} {v : Option Nat} (q : (a = x + 1 ∧ 7 ≤ k) ∨ (a = x + 23 ∧ 7 ≤ k) ∨ (a = x + 31 ∧ 9 ≤ k)) : Shp x h (sR h a k v) := ⟨rfl, Nat.le_refl _, fun _ _ => ⟨rfl, rfl⟩, fun z j _ q1 q2 q3 => by
  rw [hR_sR]
  by_cases c : z = a
  · subst c
    rw [up2_k _ _ _ (by omega)]
  · rw [up2_a _ _ _ c]⟩
theorem Shp.nw {x kd len : Nat} {h : PH} : Shp x h (nwh h kd len) := ⟨rfl, Nat.le_succ _, fun z hz' => ⟨va_ne (Nat.ne_of_lt hz'), va_ne (Nat.ne_of_lt hz')⟩, fun z k hz' _ _ _ => congrFun (show va_up (hR h) (hz h) (fun _ => none) z = hR h z from va_ne (Nat.ne_of_lt hz')) k⟩
theorem IA.shp {x : Nat} {h h' : PH} {a n : Nat} (s : Shp x h h') (l : a < hz h) (p : IA h a n) : IA h' a n := ⟨(s.2.2.1 a l).1.trans p.1, (s.2.2.1 a l).2.trans p.2⟩
/-- a day's cells; a moment's; the tape's; a walk's; a speller's -/
def DY (h : PH) (d : Nat) : Prop := hK h d = 0 ∧ hR h d 0 = some (d + 1) ∧ IA h (d + 1) 200
def MT (h : PH) (m : Nat) : Prop := hK h m = 2 ∧ (hR h m 0 = some (m + 1) ∧ hR h m 1 = some (m + 6) ∧ hR h m 2 = some (m + 8) ∧ hR h m 3 = some (m + 9) ∧ hR h m 4 = some (m + 10)) ∧ ST h (m + 1) ∧ DY h (m + 6) ∧ IA h (m + 8) 8 ∧ IA h (m + 9) 8 ∧ IA h (m + 10) 8
def TP (h : PH) (t : Nat) : Prop := hK h t = 5 ∧ hR h t 0 = some (t + 1) ∧ hK h (t + 1) = 11 ∧ hN h (t + 1) = 1000
def WK (h : PH) (k : Nat) : Prop := hK h k = 8 ∧ (hR h k 0 = some (k + 1) ∧ hR h k 1 = some (k + 2) ∧ hR h k 2 = some (k + 3) ∧ hR h k 3 = some (k + 4) ∧ hR h k 4 = some (k + 5) ∧ hR h k 5 = some (k + 6) ∧ hR h k 6 = some (k + 7)) ∧ IA h (k + 1) 4 ∧ IA h (k + 2) 4 ∧ IA h (k + 3) 4 ∧ IA h (k + 4) 4 ∧ IA h (k + 5) 1000 ∧ IA h (k + 6) 1000 ∧ IA h (k + 7) 7
def SP (h : PH) (k : Nat) : Prop := hK h k = 3 ∧ (hR h k 0 = some (k + 1) ∧ hR h k 1 = some (k + 2) ∧ hR h k 2 = some (k + 3) ∧ hR h k 3 = some (k + 4) ∧ hR h k 4 = some (k + 5) ∧ hR h k 5 = some (k + 6) ∧ hR h k 6 = some (k + 7) ∧ hR h k 7 = some (k + 8) ∧ hR h k 8 = some (k + 9)) ∧ IA h (k + 1) 4 ∧ IA h (k + 2) 4 ∧ IA h (k + 3) 4 ∧ IA h (k + 4) 4 ∧ IA h (k + 5) 44 ∧ IA h (k + 6) 44 ∧ IA h (k + 7) 24 ∧ IA h (k + 8) 24 ∧ IA h (k + 9) 1331
section SPs
variable {h : PH} {k : Nat}
theorem pR_houses (p : SP h k) : hR h k 0 = some (k + 1) := by unfold SP IA at p; simp only [p]
theorem pK_houses (p : SP h k) : hK h (k + 1) = 12 := by unfold SP IA at p; simp only [p]
theorem pN_houses (p : SP h k) : hN h (k + 1) = 4 := by unfold SP IA at p; simp only [p]
theorem pR_row (p : SP h k) : hR h k 1 = some (k + 2) := by unfold SP IA at p; simp only [p]
theorem pK_row (p : SP h k) : hK h (k + 2) = 12 := by unfold SP IA at p; simp only [p]
theorem pN_row (p : SP h k) : hN h (k + 2) = 4 := by unfold SP IA at p; simp only [p]
theorem pR_best (p : SP h k) : hR h k 2 = some (k + 3) := by unfold SP IA at p; simp only [p]
theorem pK_best (p : SP h k) : hK h (k + 3) = 12 := by unfold SP IA at p; simp only [p]
theorem pN_best (p : SP h k) : hN h (k + 3) = 4 := by unfold SP IA at p; simp only [p]
theorem pR_shows (p : SP h k) : hR h k 3 = some (k + 4) := by unfold SP IA at p; simp only [p]
theorem pK_shows (p : SP h k) : hK h (k + 4) = 12 := by unfold SP IA at p; simp only [p]
theorem pN_shows (p : SP h k) : hN h (k + 4) = 4 := by unfold SP IA at p; simp only [p]
theorem pR_dk2 (p : SP h k) : hR h k 4 = some (k + 5) := by unfold SP IA at p; simp only [p]
theorem pK_dk2 (p : SP h k) : hK h (k + 5) = 12 := by unfold SP IA at p; simp only [p]
theorem pN_dk2 (p : SP h k) : hN h (k + 5) = 44 := by unfold SP IA at p; simp only [p]
theorem pR_sw2 (p : SP h k) : hR h k 5 = some (k + 6) := by unfold SP IA at p; simp only [p]
theorem pK_sw2 (p : SP h k) : hK h (k + 6) = 12 := by unfold SP IA at p; simp only [p]
theorem pN_sw2 (p : SP h k) : hN h (k + 6) = 44 := by unfold SP IA at p; simp only [p]
theorem pR_idle (p : SP h k) : hR h k 6 = some (k + 7) := by unfold SP IA at p; simp only [p]
theorem pK_idle (p : SP h k) : hK h (k + 7) = 12 := by unfold SP IA at p; simp only [p]
theorem pN_idle (p : SP h k) : hN h (k + 7) = 24 := by unfold SP IA at p; simp only [p]
theorem pR_fre (p : SP h k) : hR h k 7 = some (k + 8) := by unfold SP IA at p; simp only [p]
theorem pK_fre (p : SP h k) : hK h (k + 8) = 12 := by unfold SP IA at p; simp only [p]
theorem pN_fre (p : SP h k) : hN h (k + 8) = 24 := by unfold SP IA at p; simp only [p]
theorem pR_rdg (p : SP h k) : hR h k 8 = some (k + 9) := by unfold SP IA at p; simp only [p]
theorem pK_rdg (p : SP h k) : hK h (k + 9) = 12 := by unfold SP IA at p; simp only [p]
theorem pN_rdg (p : SP h k) : hN h (k + 9) = 1331 := by unfold SP IA at p; simp only [p]
end SPs
section SHP
variable {x : Nat} {h h' : PH}
theorem ST.shp {a : Nat} (s : Shp x h h') (l : a + 5 ≤ hz h) (n : a ≠ x + 1 ∧ a ≠ x + 23 ∧ a ≠ x + 31) (p : ST h a) : ST h' a := by
  have r : ∀ k, hR h' a k = hR h a k := fun k => s.2.2.2 a k (by omega) (by omega) (by omega) (by omega)
  obtain ⟨p1, ⟨r1, r2, r3, r4⟩, i1, i2, i3, i4⟩ := p
  exact ⟨(s.2.2.1 a (by omega)).1.trans p1, ⟨(r 1).trans r1, (r 2).trans r2, (r 3).trans r3, (r 4).trans r4⟩, i1.shp s (by omega), i2.shp s (by omega), i3.shp s (by omega), i4.shp s (by omega)⟩
theorem DY.shp {a : Nat} (s : Shp x h h') (l : a + 2 ≤ hz h) (n : a ≠ x + 1 ∧ a ≠ x + 23 ∧ a ≠ x + 31) (p : DY h a) : DY h' a :=
  ⟨(s.2.2.1 a (by omega)).1.trans p.1, (s.2.2.2 a 0 (by omega) (by omega) (by omega) (by omega)).trans p.2.1, p.2.2.shp s (by omega)⟩
theorem MT.shp {a : Nat} (s : Shp x h h') (l : a + 11 ≤ hz h) (n : ∀ k, k < 11 → a + k ≠ x + 1 ∧ a + k ≠ x + 23 ∧ a + k ≠ x + 31) (p : MT h a) : MT h' a := by
  have n0 := n 0 (by decide)
  have r : ∀ k, hR h' a k = hR h a k := fun k => s.2.2.2 a k (by omega) (by omega) (by omega) (by omega)
  obtain ⟨p1, ⟨r0, r1, r2, r3, r4⟩, ps, pd, i1, i2, i3⟩ := p
  exact ⟨(s.2.2.1 a (by omega)).1.trans p1, ⟨(r 0).trans r0, (r 1).trans r1, (r 2).trans r2, (r 3).trans r3, (r 4).trans r4⟩, ps.shp s (by omega) (n 1 (by decide)), pd.shp s (by omega) (n 6 (by decide)), i1.shp s (by omega), i2.shp s (by omega), i3.shp s (by omega)⟩
theorem TP.shp (s : Shp x h h') (l : x + 43 ≤ hz h) (p : TP h (x + 1)) : TP h' (x + 1) :=
  ⟨(s.2.2.1 _ (by omega)).1.trans p.1, (s.2.2.2 _ 0 (by omega) (by omega) (by omega) (by omega)).trans p.2.1, (s.2.2.1 _ (by omega)).1.trans p.2.2.1, (s.2.2.1 _ (by omega)).2.trans p.2.2.2⟩
theorem WK.shp (s : Shp x h h') (l : x + 43 ≤ hz h) (p : WK h (x + 23)) : WK h' (x + 23) := by
  have r : ∀ k, k < 7 → hR h' (x + 23) k = hR h (x + 23) k := fun k hk => s.2.2.2 _ k (by omega) (by omega) (by omega) (by omega)
  obtain ⟨p1, ⟨r0, r1, r2, r3, r4, r5, r6⟩, i1, i2, i3, i4, i5, i6, i7⟩ := p
  exact ⟨(s.2.2.1 _ (by omega)).1.trans p1, ⟨(r 0 (by decide)).trans r0, (r 1 (by decide)).trans r1, (r 2 (by decide)).trans r2, (r 3 (by decide)).trans r3, (r 4 (by decide)).trans r4, (r 5 (by decide)).trans r5, (r 6 (by decide)).trans r6⟩, i1.shp s (by omega), i2.shp s (by omega), i3.shp s (by omega), i4.shp s (by omega), i5.shp s (by omega), i6.shp s (by omega), i7.shp s (by omega)⟩
theorem SP.shp (s : Shp x h h') (l : x + 43 ≤ hz h) (p : SP h (x + 31)) : SP h' (x + 31) := by
  have r : ∀ k, k < 9 → hR h' (x + 31) k = hR h (x + 31) k := fun k hk => s.2.2.2 _ k (by omega) (by omega) (by omega) (by omega)
  obtain ⟨p1, ⟨r0, r1, r2, r3, r4, r5, r6, r7, r8⟩, i0, i1, i2, i3, i4, i5, i6, i7, i8⟩ := p
  exact ⟨(s.2.2.1 _ (by omega)).1.trans p1, ⟨(r 0 (by decide)).trans r0, (r 1 (by decide)).trans r1, (r 2 (by decide)).trans r2, (r 3 (by decide)).trans r3, (r 4 (by decide)).trans r4, (r 5 (by decide)).trans r5, (r 6 (by decide)).trans r6, (r 7 (by decide)).trans r7, (r 8 (by decide)).trans r8⟩, i0.shp s (by omega), i1.shp s (by omega), i2.shp s (by omega), i3.shp s (by omega), i4.shp s (by omega), i5.shp s (by omega), i6.shp s (by omega), i7.shp s (by omega), i8.shp s (by omega)⟩
theorem VL.shp {a : Nat} (s : Shp x h h') (l : a + 18 ≤ hz h) (n : x + 43 ≤ a) (p : VL h a) : VL h' a := by
  have r : ∀ z k, x + 43 ≤ z → z < hz h → hR h' z k = hR h z k := fun z k h1 h2 => s.2.2.2 z k h2 (by omega) (by omega) (by omega)
  have r0 : ∀ k, hR h' a k = hR h a k := fun k => r a k (by omega) (by omega)
  obtain ⟨p1, ⟨q0, q1, q2, q3, q4, q5, q6, q8, q9, q10, q12, q13, q14⟩, ⟨i1, ⟨j1, j2⟩, i3, i4, i5, i6, i7, i8, i9, i10, i17⟩, ⟨g1, g2, g3, g4, g5⟩, ⟨o1, o2, o3, o4, o5⟩⟩ := p
  exact ⟨(s.2.2.1 _ (by omega)).1.trans p1, ⟨(r0 _).trans q0, (r0 _).trans q1, (r0 _).trans q2, (r0 _).trans q3, (r0 _).trans q4, (r0 _).trans q5, (r0 _).trans q6, (r0 _).trans q8, (r0 _).trans q9, (r0 _).trans q10, (r0 _).trans q12, (r0 _).trans q13, (r0 _).trans q14⟩, ⟨i1.shp s (by omega), ⟨(s.2.2.1 _ (by omega)).1.trans j1, (s.2.2.1 _ (by omega)).2.trans j2⟩, i3.shp s (by omega), i4.shp s (by omega), i5.shp s (by omega), i6.shp s (by omega), i7.shp s (by omega), i8.shp s (by omega), i9.shp s (by omega), i10.shp s (by omega), i17.shp s (by omega)⟩, ⟨(s.2.2.1 _ (by omega)).1.trans g1, (r _ _ (by omega) (by omega)).trans g2, (r _ _ (by omega) (by omega)).trans g3, g4.shp s (by omega), g5.shp s (by omega)⟩, ⟨(s.2.2.1 _ (by omega)).1.trans o1, (r _ _ (by omega) (by omega)).trans o2, (r _ _ (by omega) (by omega)).trans o3, o4.shp s (by omega), o5.shp s (by omega)⟩⟩
theorem mdT_le : ∀ q ∈ mdT, q.2.1 < 48 := by decide
theorem MD.shp {y : Nat} (s : Shp x h h') (l : y + 48 ≤ hz h) (n : x + 43 ≤ y) (p : MD h y) : MD h' y := by
  refine ⟨(s.2.2.1 _ (by omega)).1.trans p.1, fun q hq => ?_⟩
  have l2 := mdT_le q hq
  obtain ⟨q1, q2, q3⟩ := p.2 q hq
  exact ⟨(s.2.2.2 y _ (by omega) (by omega) (by omega) (by omega)).trans q1, (s.2.2.1 _ (by omega)).1.trans q2, (s.2.2.1 _ (by omega)).2.trans q3⟩
end SHP
/-- the rows of ask -/
def FW (h : PH) (x : Nat) : Prop := (hR h x 8 = some (x + 41) ∧ hR h x 9 = some (x + 42)) ∧ IA h (x + 41) 3 ∧ IA h (x + 42) 9
/-- the class's object at x, its valley at v, its spare one at w -/
def OB (h : PH) (x v w : Nat) : Prop := ((v = x + 43 ∧ w = x + 61) ∨ (v = x + 61 ∧ w = x + 43)) ∧ x + 203 ≤ hz h ∧ hK h x = 9 ∧ (hR h x 0 = some (x + 1) ∧ hR h x 1 = some (x + 3) ∧ hR h x 2 = some (x + 14) ∧ hR h x 3 = some (x + 15) ∧ hR h x 4 = some (x + 16) ∧ hR h x 5 = some (x + 21) ∧ hR h x 6 = some (x + 23) ∧ hR h x 7 = some (x + 31) ∧ hR h x 10 = some v ∧ hR h x 11 = some w) ∧ TP h (x + 1) ∧ MT h (x + 3) ∧ ((hK h (x + 14) = 15 ∧ hN h (x + 14) = 4) ∧ ∀ i, i < 4 → hR h (x + 14) i = some (x + 79 + 11 * i) ∧ MT h (x + 79 + 11 * i)) ∧ ((hK h (x + 15) = 16 ∧ hN h (x + 15) = 16) ∧ ∀ i, i < 16 → hR h (x + 15) i = some (x + 123 + 5 * i) ∧ ST h (x + 123 + 5 * i)) ∧ ST h (x + 16) ∧ DY h (x + 21) ∧ WK h (x + 23) ∧ SP h (x + 31) ∧ VL h v ∧ VL h w ∧ FW h x
theorem OB.shp {x v w : Nat} {h h' : PH} (s : Shp x h h') (p : OB h x v w) : OB h' x v w := by
  obtain ⟨d, l, p1, ⟨r0, r1, r2, r3, r4, r5, r6, r7, r8, r9⟩, pt, pm, ⟨⟨a1, a2⟩, a3⟩, ⟨⟨b1, b2⟩, b3⟩, pd, py, pw, pp, pv, pv2, pf⟩ := p
  have r : ∀ z k, z < x + 203 → z ≠ x + 1 → z ≠ x + 23 → z ≠ x + 31 → hR h' z k = hR h z k := fun z k h1 h2 h3 h4 => s.2.2.2 z k (by omega) (by omega) (by omega) (by omega)
  have r' : ∀ k, hR h' x k = hR h x k := fun k => r x k (by omega) (by omega) (by omega) (by omega)
  exact ⟨d, Nat.le_trans l s.2.1, (s.2.2.1 _ (by omega)).1.trans p1, ⟨(r' _).trans r0, (r' _).trans r1, (r' _).trans r2, (r' _).trans r3, (r' _).trans r4, (r' _).trans r5, (r' _).trans r6, (r' _).trans r7, (r' _).trans r8, (r' _).trans r9⟩, pt.shp s (by omega), pm.shp s (by omega) (fun k hk => by omega), ⟨⟨(s.2.2.1 _ (by omega)).1.trans a1, (s.2.2.1 _ (by omega)).2.trans a2⟩, fun i hi => ⟨(r _ _ (by omega) (by omega) (by omega) (by omega)).trans (a3 i hi).1, (a3 i hi).2.shp s (by omega) (fun k hk => by omega)⟩⟩, ⟨⟨(s.2.2.1 _ (by omega)).1.trans b1, (s.2.2.1 _ (by omega)).2.trans b2⟩, fun i hi => ⟨(r _ _ (by omega) (by omega) (by omega) (by omega)).trans (b3 i hi).1, (b3 i hi).2.shp s (by omega) (by omega)⟩⟩, pd.shp s (by omega) (by omega), py.shp s (by omega) (by omega), pw.shp s (by omega), pp.shp s (by omega), pv.shp s (by omega) (by omega), pv2.shp s (by omega) (by omega), ⟨⟨(r' _).trans pf.1.1, (r' _).trans pf.1.2⟩, pf.2.1.shp s (by omega), pf.2.2.shp s (by omega)⟩⟩
/-- h' has the shape of h, and the contents of all cells of P -/
def Kx (x : Nat) (P : Nat → Prop) (h h' : PH) : Prop := Shp x h h' ∧ ∀ z, P z → hI h' z = hI h z ∧ hJ h' z = hJ h z
theorem Kx.rf {x : Nat} {P : Nat → Prop} {h : PH} : Kx x P h h := ⟨Shp.rf, fun _ _ => ⟨rfl, rfl⟩⟩
theorem Kx.trans {x : Nat} {P : Nat → Prop} {h h1 h2 : PH} (p : Kx x P h h1) (q : Kx x P h1 h2) : Kx x P h h2 := ⟨p.1.trans q.1, fun z hz => ⟨(q.2 z hz).1.trans (p.2 z hz).1, (q.2 z hz).2.trans (p.2 z hz).2⟩⟩
theorem Kx.mono {x : Nat} {P Q : Nat → Prop} {h h1 : PH} (p : Kx x P h h1) (hPQ : ∀ z, Q z → P z) : Kx x Q h h1 := ⟨p.1, fun z hz => p.2 z (hPQ z hz)⟩
theorem Ex.kx {x : Nat} {P Q : Nat → Prop} {h h' : PH} (e : Ex P h h') (hPQ : ∀ z, Q z → ¬ P z) : Kx x Q h h' := ⟨e.shp, fun z hz => ⟨e.2.2.2 z (hPQ z hz), by rw [e.2.2.1]⟩⟩
theorem Gx.kx {x a : Nat} {Q : Nat → Prop} {h h' : PH} (g : Gx a h h') (hPQ : ∀ z, Q z → z ≠ a + 13 ∧ z ≠ a + 16 ∧ z ≠ a + 17) : Kx x Q h h' := ⟨g.shp, fun z hz => ⟨g.2.2.2 z (hPQ z hz).1 (hPQ z hz).2.1 (hPQ z hz).2.2, by rw [g.2.2.1]⟩⟩
section KXT
variable {x : Nat} {P : Nat → Prop} {h h' : PH}
theorem CS.kx {s : Nat} {S : AS} (g : Kx x P h h') (hP : ∀ z, s ≤ z → z < s + 5 → P z) (p : CS h s S) : CS h' s S := by
  have e : ∀ k, k < 5 → hI h' (s + k) = hI h (s + k) := fun k hk => (g.2 _ (hP _ (by omega) (by omega))).1
  have e0 := e 0 (by decide)
  rw [Nat.add_zero] at e0
  unfold CS at p ⊢
  rw [e0, e 1 (by decide), e 2 (by decide), e 3 (by decide), e 4 (by decide)]
  exact p
theorem CV.kx {a : Nat} {A : AV} (g : Kx x P h h') (hP : ∀ z, a ≤ z → z < a + 18 → P z) (p : CV h a A) : CV h' a A := by
  have e : ∀ k, k < 18 → hI h' (a + k) = hI h (a + k) := fun k hk => (g.2 _ (hP _ (by omega) (by omega))).1
  have e0 := e 0 (by decide)
  rw [Nat.add_zero] at e0
  unfold CV at p ⊢
  rw [e0, e 1 (by decide), e 3 (by decide), e 4 (by decide), e 5 (by decide), e 6 (by decide), e 7 (by decide), e 8 (by decide), e 9 (by decide), e 10 (by decide)]
  exact p
theorem VA.kx {a : Nat} {A : AV} (g : Kx x P h h') (hP : ∀ z, a ≤ z → z < a + 18 → P z) (l : a + 18 ≤ hz h) (n : x + 43 ≤ a) (p : VA h a A) : VA h' a A := by
  have e : ∀ k, k < 18 → hI h' (a + k) = hI h (a + k) := fun k hk => (g.2 _ (hP _ (by omega) (by omega))).1
  refine ⟨p.1.shp g.1 l n, p.2.1.kx g hP, p.2.2.1, ?_, ?_⟩
  · have := p.2.2.2.1
    unfold CL at this ⊢
    rw [e 11 (by decide), e 12 (by decide), e 14 (by decide), e 15 (by decide)]
    exact this
  · have := p.2.2.2.2
    unfold GM at this ⊢
    rw [e 17 (by decide)]
    exact this
theorem MA.kx {N y : Nat} {A : AV} (g : Kx x P h h') (hP : ∀ z, y + 2 ≤ z → z ≤ y + 14 → P z) (l : y + 48 ≤ hz h) (n : x + 43 ≤ y) (p : MA N h y A) : MA N h' y A := by
  have e : ∀ k, 2 ≤ k → k ≤ 14 → hI h' (y + k) = hI h (y + k) := fun k h1 h2 => (g.2 _ (hP _ (by omega) (by omega))).1
  refine ⟨p.1.shp g.1 l n, ?_, p.2.2.1, ?_⟩
  · have := p.2.1
    unfold MV at this ⊢
    rw [e 2 (by decide) (by decide), e 4 (by decide) (by decide), e 5 (by decide) (by decide), e 6 (by decide) (by decide), e 7 (by decide) (by decide), e 8 (by decide) (by decide), e 9 (by decide) (by decide), e 10 (by decide) (by decide), e 11 (by decide) (by decide)]
    exact this
  · obtain ⟨f0, t0, f1, t1, Wg, Ws, b, a1, a2, a3, a4, a5, a6, a7, a8⟩ := p.2.2.2
    have e12 := e 12 (by decide) (by decide)
    have e13 := e 13 (by decide) (by decide)
    have e14 := e 14 (by decide) (by decide)
    exact ⟨f0, t0, f1, t1, Wg, Ws, b, by rw [e12]; exact a1, by rw [e13]; exact a2, by rw [e12]; exact a3, by rw [e13]; exact a4, fun q => (a5 q).row e12 e13 e14, fun q => (a6 q).row e12 e13 e14, a7, a8⟩
end KXT
/-- an abstract day: lines, and five cells of each: what (0 burn, 1 lend, 2 hour), house, the other one, fuel, how much -/
abbrev AD : Type := Nat × (Nat → Nat)
/-- what is read: how many, watchers, flues, signs -/
abbrev AR : Type := Nat × (Nat → Nat) × (Nat → Nat) × (Nat → Int32)
abbrev AM : Type := AS × AD × AR
def CD (h : PH) (d : Nat) (D : AD) : Prop := hI h d 1 = nI D.1 ∧ ∀ k, k < 5 * D.1 → hI h (d + 1) k = nI (D.2 k)
def CR (h : PH) (m : Nat) (R : AR) : Prop := hI h m 5 = nI R.1 ∧ ∀ k, k < R.1 → hI h (m + 8) k = nI (R.2.1 k) ∧ hI h (m + 9) k = nI (R.2.2.1 k) ∧ hI h (m + 10) k = R.2.2.2 k
def CM (h : PH) (m : Nat) (M : AM) : Prop := CS h (m + 1) M.1 ∧ CD h (m + 6) M.2.1 ∧ CR h m M.2.2
def RD (h : PH) (y sl : Nat) (D : AD) : Prop := hI h (y + 27) sl = nI D.1 ∧ ∀ k, k < D.1 → hI h (y + 28) (40 * sl + k) = nI (D.2 (5 * k)) ∧ (D.2 (5 * k) = 0 → hI h (y + 29) (40 * sl + k) = nI (D.2 (5 * k + 1)) ∧ hI h (y + 30) (40 * sl + k) = nI (D.2 (5 * k + 3))) ∧ (D.2 (5 * k) = 1 → hI h (y + 29) (40 * sl + k) = nI (D.2 (5 * k + 1)) ∧ hI h (y + 30) (40 * sl + k) = nI (D.2 (5 * k + 2)) ∧ hI h (y + 31) (40 * sl + k) = nI (D.2 (5 * k + 3)) ∧ hI h (y + 32) (40 * sl + k) = nI (D.2 (5 * k + 4)))
def RR (h : PH) (y sl : Nat) (R : AR) : Prop := hI h (y + 33) sl = nI R.1 ∧ ∀ k, k < R.1 → hI h (y + 34) (8 * sl + k) = nI (R.2.1 k) ∧ hI h (y + 35) (8 * sl + k) = nI (R.2.2.1 k) ∧ hI h (y + 36) (8 * sl + k) = R.2.2.2 k
def WD (A : AV) (D : AD) : Prop := D.1 ≤ 40 ∧ ∀ k, k < D.1 → D.2 (5 * k) ≤ 2 ∧ (D.2 (5 * k) < 2 → D.2 (5 * k + 1) < aC A 2 ∧ D.2 (5 * k + 3) < aC A 0) ∧ (D.2 (5 * k) = 1 → D.2 (5 * k + 2) < aC A 2 ∧ D.2 (5 * k + 2) ≠ D.2 (5 * k + 1) ∧ 1 ≤ D.2 (5 * k + 4) ∧ D.2 (5 * k + 4) ≤ 99)
def WR (A : AV) (R : AR) : Prop := R.1 ≤ 8 ∧ ∀ k, k < R.1 → R.2.1 k < aC A 4 ∧ R.2.2.1 k < aC A 1 ∧ (R.2.2.2 k = -1 ∨ ∃ s, s < aC A 3 ∧ R.2.2.2 k = nI s)
def WM (A : AV) (J : Nat) (M : AM) : Prop := WS A J M.1 ∧ WD A M.2.1 ∧ WR A M.2.2
theorem WS.up {A : AV} {J J' : Nat} {S : AS} (hJ : J ≤ J') (p : WS A J S) : WS A J' S := ⟨Nat.le_trans p.1 hJ, p.2⟩
theorem WM.up {A : AV} {J J' : Nat} {M : AM} (hJ : J ≤ J') (p : WM A J M) : WM A J' M := ⟨p.1.up hJ, p.2⟩
section KXM
variable {x : Nat} {P : Nat → Prop} {h h' : PH}
theorem CD.kx {d : Nat} {D : AD} (g : Kx x P h h') (hP : ∀ z, d ≤ z → z < d + 2 → P z) (p : CD h d D) : CD h' d D := by
  unfold CD at p ⊢
  rw [(g.2 d (hP _ (by omega) (by omega))).1, (g.2 (d + 1) (hP _ (by omega) (by omega))).1]
  exact p
theorem CR.kx {m : Nat} {R : AR} (g : Kx x P h h') (hP : ∀ z, m ≤ z → z < m + 11 → P z) (p : CR h m R) : CR h' m R := by
  unfold CR at p ⊢
  rw [(g.2 m (hP _ (by omega) (by omega))).1, (g.2 (m + 8) (hP _ (by omega) (by omega))).1, (g.2 (m + 9) (hP _ (by omega) (by omega))).1, (g.2 (m + 10) (hP _ (by omega) (by omega))).1]
  exact p
theorem CM.kx {m : Nat} {M : AM} (g : Kx x P h h') (hP : ∀ z, m ≤ z → z < m + 11 → P z) (p : CM h m M) : CM h' m M := ⟨p.1.kx g (fun z h1 h2 => hP z (by omega) (by omega)), p.2.1.kx g (fun z h1 h2 => hP z (by omega) (by omega)), p.2.2.kx g hP⟩
theorem RD.kx {y sl : Nat} {D : AD} (g : Kx x P h h') (hP : ∀ z, y + 27 ≤ z → z ≤ y + 32 → P z) (p : RD h y sl D) : RD h' y sl D := by
  unfold RD at p ⊢
  rw [(g.2 (y + 27) (hP _ (by omega) (by omega))).1, (g.2 (y + 28) (hP _ (by omega) (by omega))).1, (g.2 (y + 29) (hP _ (by omega) (by omega))).1, (g.2 (y + 30) (hP _ (by omega) (by omega))).1, (g.2 (y + 31) (hP _ (by omega) (by omega))).1, (g.2 (y + 32) (hP _ (by omega) (by omega))).1]
  exact p
theorem RR.kx {y sl : Nat} {R : AR} (g : Kx x P h h') (hP : ∀ z, y + 33 ≤ z → z ≤ y + 36 → P z) (p : RR h y sl R) : RR h' y sl R := by
  unfold RR at p ⊢
  rw [(g.2 (y + 33) (hP _ (by omega) (by omega))).1, (g.2 (y + 34) (hP _ (by omega) (by omega))).1, (g.2 (y + 35) (hP _ (by omega) (by omega))).1, (g.2 (y + 36) (hP _ (by omega) (by omega))).1]
  exact p
theorem RS.kx {r b : Nat} {S : AS} (g : Kx x P h h') (hP : P r) (p : RS (hI h r) b S) : RS (hI h' r) b S := by rw [(g.2 r hP).1]; exact p
end KXM
