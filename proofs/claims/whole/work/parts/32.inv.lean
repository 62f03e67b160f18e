/-! The invariant. -/
/-- a word's code of n letters, five bits a letter; and what the reference makes of it -/
def W3 : Nat → Nat → Prop
  | 0, c => c = 0
  | n + 1, c => 1 ≤ c % 32 ∧ c % 32 ≤ 26 ∧ W3 n (c / 32)
def t27 : Nat → Nat → Nat
  | 0, _ => 0
  | n + 1, c => 27 * t27 n (c / 32) + c % 32
/-- where the reference's names of a kind begin -/
def fN (k : Nat) : Nat := if k = 0 then 0 else if k = 1 then 5 else if k = 2 then 8 else if k = 3 then 12 else 18
/-- the names that both sides keep are the same words -/
def NM (h : PH) (v y : Nat) (A : AV) : Prop := ∀ k i, k < 5 → i < aC A k → ∃ n c, 1 ≤ n ∧ n ≤ 8 ∧ W3 n c ∧ hJ h (v + 2) (6 * k + i) = lN c ∧ hJ h (y + 3) (fN k + i) = lN (t27 n c)
/-- the states that can be undone -/
def IP (h : PH) (x y : Nat) (A : AV) (J pn pc : Nat) (P : Nat → AS) : Prop := (pn < 16 ∧ pc ≤ 16 ∧ hI h x 13 = nI pn ∧ hI h x 14 = nI pc ∧ hI h y 54 = nI pc) ∧ ∀ i, i < pc → CS h (x + 123 + 5 * ((pn + 16 - pc + i) % 16)) (P i) ∧ RS (hI h (y + 40)) (32 * i) (P i) ∧ WS A J (P i)
/-- the marks -/
def IK (h : PH) (x y : Nat) (A : AV) (J : Nat) (lb : Nat → Bool) (K : Nat → AM) : Prop := hI h x 12 = nI (bts lb 4) ∧ ∀ i, i < 4 → hI h (y + 41) i = (if lb i = true then 1 else 0) ∧ (lb i = true → CM h (x + 79 + 11 * i) (K i) ∧ RS (hI h (y + 39)) (32 * i) (K i).1 ∧ RD h y (1 + i) (K i).2.1 ∧ RR h y (1 + i) (K i).2.2 ∧ WM A J (K i))
/-- the tape -/
def IT (h : PH) (x y tn : Nat) (tb : Nat → Nat) : Prop := tn ≤ 1000 ∧ hI h (x + 1) 1 = nI tn ∧ hI h y 1 = nI tn ∧ ∀ k, k < tn → (tb k = 10 ∨ (32 ≤ tb k ∧ tb k ≤ 126)) ∧ hI h (x + 2) k = nI (tb k) ∧ hI h (y + 1) k = nI (tb k)
/-- rows of the search that are never written at a house's first place -/
def Z11 (h : PH) (x : Nat) : Prop := ∀ k, k < 4 → hI h (x + 36) (11 * k) = 0 ∧ hI h (x + 37) (11 * k) = 0
/-- where things lie -/
def I0 (h : PH) (x y o : Nat) : Prop := y = x + 203 ∧ o = y + 48 ∧ o < hz h ∧ hK h o = 14 ∧ hN h o = 1 ∧ (∀ i j, i < 27 → j < 27 → hW h i = hW h j → i = j) ∧ (hI h (x + 54) 0 = 1 ∧ hI h (x + 57) 0 = 0 ∧ hI h (x + 72) 0 = 1 ∧ hI h (x + 75) 0 = 0) ∧ Z11 h x
/-- how it is now, on both sides -/
def IM (h : PH) (x y : Nat) (A : AV) (J : Nat) (M : AM) : Prop := CM h (x + 3) M ∧ RS (hI h (y + 37)) 0 M.1 ∧ RD h y 0 M.2.1 ∧ RR h y 0 M.2.2 ∧ WM A J M
def INVq (N x y o J : Nat) (h : PH) (v w : Nat) (A : AV) (M : AM) (pn pc : Nat) (P : Nat → AS) (lb : Nat → Bool) (K : Nat → AM) (tn : Nat) (tb : Nat → Nat) : Prop := I0 h x y o ∧ OB h x v w ∧ VA h v A ∧ MA N h y A ∧ NM h v y A ∧ IM h x y A J M ∧ IP h x y A J pn pc P ∧ IK h x y A J lb K ∧ IT h x y tn tb
def INV (N x y o J : Nat) (h : PH) : Prop := ∃ v w A M pn pc P lb K tn tb, INVq N x y o J h v w A M pn pc P lb K tn tb
theorem IP.up {h : PH} {x y : Nat} {A : AV} {J J' pn pc : Nat} {P : Nat → AS} (hJ : J ≤ J') (p : IP h x y A J pn pc P) : IP h x y A J' pn pc P := ⟨p.1, fun i hi => ⟨(p.2 i hi).1, (p.2 i hi).2.1, (p.2 i hi).2.2.up hJ⟩⟩
theorem IK.up {h : PH} {x y : Nat} {A : AV} {J J' : Nat} {lb : Nat → Bool} {K : Nat → AM} (hJ : J ≤ J') (p : IK h x y A J lb K) : IK h x y A J' lb K := ⟨p.1, fun i hi => ⟨(p.2 i hi).1, fun l => ⟨((p.2 i hi).2 l).1, ((p.2 i hi).2 l).2.1, ((p.2 i hi).2 l).2.2.1, ((p.2 i hi).2 l).2.2.2.1, ((p.2 i hi).2 l).2.2.2.2.up hJ⟩⟩⟩
theorem IM.up {h : PH} {x y : Nat} {A : AV} {J J' : Nat} {M : AM} (hJ : J ≤ J') (p : IM h x y A J M) : IM h x y A J' M := ⟨p.1, p.2.1, p.2.2.1, p.2.2.2.1, p.2.2.2.2.up hJ⟩
theorem INVq.up {N x y o J J' : Nat} {h : PH} {v w : Nat} {A : AV} {M : AM} {pn pc : Nat} {P : Nat → AS} {lb : Nat → Bool} {K : Nat → AM} {tn : Nat} {tb : Nat → Nat} (hJ : J ≤ J') (p : INVq N x y o J h v w A M pn pc P lb K tn tb) : INVq N x y o J' h v w A M pn pc P lb K tn tb := ⟨p.1, p.2.1, p.2.2.1, p.2.2.2.1, p.2.2.2.2.1, p.2.2.2.2.2.1.up hJ, p.2.2.2.2.2.2.1.up hJ, p.2.2.2.2.2.2.2.1.up hJ, p.2.2.2.2.2.2.2.2⟩
theorem INV.up {N x y o J J' : Nat} {h : PH} (hJ : J ≤ J') (p : INV N x y o J h) : INV N x y o J' h := by
  obtain ⟨v, w, A, M, pn, pc, P, lb, K, tn, tb, q⟩ := p
  exact ⟨v, w, A, M, pn, pc, P, lb, K, tn, tb, q.up hJ⟩
section IKX
variable {x y : Nat} {P : Nat → Prop} {h h' : PH} {A : AV} {J : Nat}
theorem I0.shp0 {o : Nat} (s : Shp x h h') (e : ∀ z, z = x + 54 ∨ z = x + 57 ∨ z = x + 72 ∨ z = x + 75 → hI h' z = hI h z) (hZ : Z11 h' x) (p : I0 h x y o) : I0 h' x y o := by
  obtain ⟨p1, p2, p3, p4, p5, p6, p7, p8⟩ := p
  exact ⟨p1, p2, Nat.lt_of_lt_of_le p3 s.2.1, (s.2.2.1 o p3).1.trans p4, (s.2.2.1 o p3).2.trans p5, by rw [s.1]; exact p6, by rw [e _ (Or.inl rfl), e _ (Or.inr (Or.inl rfl)), e _ (Or.inr (Or.inr (Or.inl rfl))), e _ (Or.inr (Or.inr (Or.inr rfl)))]; exact p7, hZ⟩
theorem Z11.eq {h h' : PH} (e : ∀ z, z = x + 36 ∨ z = x + 37 → hI h' z = hI h z) (p : Z11 h x) : Z11 h' x := fun k hk => by
  rw [e _ (Or.inl rfl), e _ (Or.inr rfl)]
  exact p k hk
theorem I0.shp {o : Nat} (s : Shp x h h') (e : ∀ z, (z = x + 54 ∨ z = x + 57 ∨ z = x + 72 ∨ z = x + 75) ∨ (z = x + 36 ∨ z = x + 37) → hI h' z = hI h z) (p : I0 h x y o) : I0 h' x y o := p.shp0 s (fun z hz => e z (Or.inl hz)) (p.2.2.2.2.2.2.2.eq (fun z hz => e z (Or.inr hz)))
theorem IP.kx {pn pc : Nat} {Q : Nat → AS} (g : Kx x P h h') (hx : ∀ k, k = 13 ∨ k = 14 → hI h' x k = hI h x k) (hy : hI h' y 54 = hI h y 54) (hP : ∀ z, (x + 123 ≤ z ∧ z < x + 203) ∨ z = y + 40 → P z) (p : IP h x y A J pn pc Q) : IP h' x y A J pn pc Q := by
  refine ⟨⟨p.1.1, p.1.2.1, by rw [hx 13 (by omega)]; exact p.1.2.2.1, by rw [hx 14 (by omega)]; exact p.1.2.2.2.1, by rw [hy]; exact p.1.2.2.2.2⟩, fun i hi => ?_⟩
  obtain ⟨q1, q2, q3⟩ := p.2 i hi
  exact ⟨q1.kx g (fun z z1 z2 => hP z (by omega)), q2.kx g (hP _ (by omega)), q3⟩
theorem IK.kx {lb : Nat → Bool} {K : Nat → AM} (g : Kx x P h h') (hx : hI h' x 12 = hI h x 12) (hP : ∀ z, (x + 79 ≤ z ∧ z < x + 123) ∨ (y + 27 ≤ z ∧ z ≤ y + 36) ∨ z = y + 39 ∨ z = y + 41 → P z) (p : IK h x y A J lb K) : IK h' x y A J lb K := by
  refine ⟨hx.trans p.1, fun i hi => ?_⟩
  obtain ⟨q1, q2⟩ := p.2 i hi
  refine ⟨by rw [(g.2 (y + 41) (hP _ (by omega))).1]; exact q1, fun l => ?_⟩
  obtain ⟨t1, t2, t3, t4, t5⟩ := q2 l
  exact ⟨t1.kx g (fun z z1 z2 => hP z (by omega)), t2.kx g (hP _ (by omega)), t3.kx g (fun z z1 z2 => hP z (by omega)), t4.kx g (fun z z1 z2 => hP z (by omega)), t5⟩
theorem IT.kx {tn : Nat} {tb : Nat → Nat} (g : Kx x P h h') (hx : hI h' (x + 1) 1 = hI h (x + 1) 1) (hy : hI h' y 1 = hI h y 1) (hP : ∀ z, z = x + 2 ∨ z = y + 1 → P z) (p : IT h x y tn tb) : IT h' x y tn tb := by
  unfold IT at p ⊢
  rw [hx, hy, (g.2 (x + 2) (hP _ (by omega))).1, (g.2 (y + 1) (hP _ (by omega))).1]
  exact p
theorem IM.kx {M : AM} (g : Kx x P h h') (hP : ∀ z, (x + 3 ≤ z ∧ z < x + 14) ∨ (y + 27 ≤ z ∧ z ≤ y + 37) → P z) (p : IM h x y A J M) : IM h' x y A J M := by
  obtain ⟨p1, p2, p3, p4, p5⟩ := p
  exact ⟨p1.kx g (fun z z1 z2 => hP z (by omega)), p2.kx g (hP _ (by omega)), p3.kx g (fun z z1 z2 => hP z (by omega)), p4.kx g (fun z z1 z2 => hP z (by omega)), p5⟩
theorem NM.kx {v : Nat} (g : Kx x P h h') (h1 : P (v + 2)) (h2 : P (y + 3)) (p : NM h v y A) : NM h' v y A := by
  unfold NM at p ⊢
  rw [(g.2 _ h1).2, (g.2 _ h2).2]
  exact p
end IKX
/-- what no answer changes: cells that the invariant reads -/
def Kp (x y z : Nat) : Prop := (x ≤ z ∧ z ≤ x + 15) ∨ (z = x + 36 ∨ z = x + 37) ∨ (z = x + 54 ∨ z = x + 57 ∨ z = x + 72 ∨ z = x + 75) ∨ (x + 79 ≤ z ∧ z < x + 203) ∨ (y + 1 ≤ z ∧ z ≤ y + 14) ∨ (y + 27 ≤ z ∧ z ≤ y + 37) ∨ (y + 39 ≤ z ∧ z ≤ y + 41)
theorem INVq.keep0 {N x y o J : Nat} {h h' : PH} {v w : Nat} {A : AV} {M : AM} {pn pc : Nat} {P : Nat → AS} {lb : Nat → Bool} {K : Nat → AM} {tn : Nat} {tb : Nat → Nat} (g : Kx x (fun z => Kp x y z ∧ z ≠ x + 36 ∧ z ≠ x + 37) h h') (hZ : Z11 h' x) (hv : VA h' v A) (hj : hJ h' (v + 2) = hJ h (v + 2)) (e1 : hI h' y 1 = hI h y 1) (e54 : hI h' y 54 = hI h y 54) (p : INVq N x y o J h v w A M pn pc P lb K tn tb) : INVq N x y o J h' v w A M pn pc P lb K tn tb := by
  obtain ⟨p0, pb, pv, pm, pn, pM, pP, pK, pT⟩ := p
  have y0 := p0.1
  have z0 := p0.2.2.1
  have z1 := p0.2.1
  have ex : hI h' x = hI h x := (g.2 x ⟨Or.inl ⟨Nat.le_refl _, by omega⟩, by omega, by omega⟩).1
  have ex1 : hI h' (x + 1) = hI h (x + 1) := (g.2 (x + 1) ⟨Or.inl ⟨by omega, by omega⟩, by omega, by omega⟩).1
  refine ⟨p0.shp0 g.1 (fun z hz => (g.2 z (by unfold Kp; omega)).1) hZ, pb.shp g.1, hv, pm.kx g (fun z z1 z2 => by unfold Kp; omega) (by omega) (by omega), ?_, pM.kx g (fun z hz => by unfold Kp; omega), pP.kx g (fun k _ => by rw [ex]) e54 (fun z hz => by unfold Kp; omega), pK.kx g (by rw [ex]) (fun z hz => by unfold Kp; omega), pT.kx g (by rw [ex1]) e1 (fun z hz => by unfold Kp; omega)⟩
  unfold NM at pn ⊢
  rw [hj, (g.2 (y + 3) (by unfold Kp; omega)).2]
  exact pn
theorem INVq.keep {N x y o J : Nat} {h h' : PH} {v w : Nat} {A : AV} {M : AM} {pn pc : Nat} {P : Nat → AS} {lb : Nat → Bool} {K : Nat → AM} {tn : Nat} {tb : Nat → Nat} (g : Kx x (Kp x y) h h') (hv : VA h' v A) (hj : hJ h' (v + 2) = hJ h (v + 2)) (e1 : hI h' y 1 = hI h y 1) (e54 : hI h' y 54 = hI h y 54) (p : INVq N x y o J h v w A M pn pc P lb K tn tb) : INVq N x y o J h' v w A M pn pc P lb K tn tb :=
  p.keep0 (g.mono (fun z hz => hz.1)) (p.1.2.2.2.2.2.2.2.eq (fun z hz => (g.2 z (by unfold Kp; omega)).1)) hv hj e1 e54
/-- the valleys' own cells -/
def Kv (x y z : Nat) : Prop := (z = x + 36 ∨ z = x + 37) ∨ (x + 43 ≤ z ∧ z < x + 79) ∨ (y + 2 ≤ z ∧ z ≤ y + 14)
section IST
variable {N x y o J J' : Nat} {h h' : PH} {v w : Nat} {A : AV} {M M' : AM} {pn pc pn' pc' : Nat} {P P' : Nat → AS} {lb lb' : Nat → Bool} {K K' : Nat → AM} {tn tn' : Nat} {tb tb' : Nat → Nat}
theorem INVq.step (g : Kx x (Kv x y) h h') (q : INVq N x y o J h v w A M pn pc P lb K tn tb) (pM : IM h' x y A J' M') (pP : IP h' x y A J' pn' pc' P') (pK : IK h' x y A J' lb' K') (pT : IT h' x y tn' tb') : INVq N x y o J' h' v w A M' pn' pc' P' lb' K' tn' tb' := by
  obtain ⟨p0, pb, pv, pm, pnm, _⟩ := q
  have y0 := p0.1
  have z0 := p0.2.2.1
  have z1 := p0.2.1
  have vw := pb.1
  exact ⟨p0.shp g.1 (fun z hz => (g.2 z (by unfold Kv; omega)).1), pb.shp g.1, pv.kx g (fun z z1 z2 => by unfold Kv; omega) (by omega) (by omega), pm.kx g (fun z z1 z2 => by unfold Kv; omega) (by omega) (by omega), pnm.kx g (by unfold Kv; omega) (by unfold Kv; omega), pM, pP, pK, pT⟩
/-- scratch cells -/
def Sc (x y z : Nat) : Prop := (x + 16 ≤ z ∧ z ≤ x + 35) ∨ (x + 38 ≤ z ∧ z ≤ x + 42) ∨ (y + 15 ≤ z ∧ z ≤ y + 26) ∨ z = y + 38 ∨ (y + 42 ≤ z ∧ z ≤ y + 47)
theorem INVq.ex {Q : Nat → Prop} (g : Ex Q h h') (hQ : ∀ z, Q z → Sc x y z ∨ z = y) (e1 : hI h' y 1 = hI h y 1) (e54 : hI h' y 54 = hI h y 54) (q : INVq N x y o J h v w A M pn pc P lb K tn tb) : INVq N x y o J h' v w A M pn pc P lb K tn tb := by
  have y0 := q.1.1
  have vw := q.2.1.1
  refine q.keep (g.kx (fun z hz hq => ?_)) (q.2.2.1.ex g (fun z z1 z2 z3 => ?_)) (by rw [g.2.2.1]) e1 e54
  · have := hQ z hq
    unfold Kp at hz
    unfold Sc at this
    omega
  · have := hQ z z3
    unfold Sc at this
    omega
theorem INVq.gx (g : Gx v h h') (hv : VA h' v A) (q : INVq N x y o J h v w A M pn pc P lb K tn tb) : INVq N x y o J h' v w A M pn pc P lb K tn tb := by
  have y0 := q.1.1
  have vw := q.2.1.1
  refine q.keep (g.kx (fun z hz => ?_)) hv (by rw [g.2.2.1]) (by rw [g.2.2.2 y (by omega) (by omega) (by omega)]) (by rw [g.2.2.2 y (by omega) (by omega) (by omega)])
  unfold Kp at hz
  omega
theorem INVq.thr (u : Int32) (q : INVq N x y o J h v w A M pn pc P lb K tn tb) : INVq N x y o J (sI h y 0 u) v w A M pn pc P lb K tn tb :=
  q.ex (Q := fun z => z = y) (Ex.sI rfl) (fun z hz => Or.inr hz) (by rw [hI_sI_eq, va_ne (by decide)]) (by rw [hI_sI_eq, va_ne (by decide)])
theorem INVq.inv (q : INVq N x y o J h v w A M pn pc P lb K tn tb) : INV N x y o (J + 1) h := ⟨v, w, A, M, pn, pc, P, lb, K, tn, tb, q.up (Nat.le_succ J)⟩
theorem INVq.dj (q : INVq N x y o J h v w A M pn pc P lb K tn tb) : Dj (x + 3 + 1) v := by have := q.2.1.1; unfold Dj; omega
theorem INVq.djd (q : INVq N x y o J h v w A M pn pc P lb K tn tb) : Dj (x + 16) v := by have := q.2.1.1; unfold Dj; omega
theorem OB.k9 (p : OB h x v w) : hK h x = 9 := p.2.2.1
theorem OB.R0 (p : OB h x v w) : hR h x 0 = some (x + 1) := p.2.2.2.1.1
theorem OB.R1 (p : OB h x v w) : hR h x 1 = some (x + 3) := p.2.2.2.1.2.1
theorem OB.R2 (p : OB h x v w) : hR h x 2 = some (x + 14) := p.2.2.2.1.2.2.1
theorem OB.R3 (p : OB h x v w) : hR h x 3 = some (x + 15) := p.2.2.2.1.2.2.2.1
theorem OB.R4 (p : OB h x v w) : hR h x 4 = some (x + 16) := p.2.2.2.1.2.2.2.2.1
theorem OB.R5 (p : OB h x v w) : hR h x 5 = some (x + 21) := p.2.2.2.1.2.2.2.2.2.1
theorem OB.R6 (p : OB h x v w) : hR h x 6 = some (x + 23) := p.2.2.2.1.2.2.2.2.2.2.1
theorem OB.R7 (p : OB h x v w) : hR h x 7 = some (x + 31) := p.2.2.2.1.2.2.2.2.2.2.2.1
theorem OB.R8 (p : OB h x v w) : hR h x 10 = some v := p.2.2.2.1.2.2.2.2.2.2.2.2.1
theorem OB.R9 (p : OB h x v w) : hR h x 11 = some w := p.2.2.2.1.2.2.2.2.2.2.2.2.2
theorem OB.tp (p : OB h x v w) : TP h (x + 1) := p.2.2.2.2.1
theorem OB.mt (p : OB h x v w) : MT h (x + 3) := p.2.2.2.2.2.1
theorem OB.mk (p : OB h x v w) : (hK h (x + 14) = 15 ∧ hN h (x + 14) = 4) ∧ ∀ i, i < 4 → hR h (x + 14) i = some (x + 79 + 11 * i) ∧ MT h (x + 79 + 11 * i) := p.2.2.2.2.2.2.1
theorem OB.ps (p : OB h x v w) : (hK h (x + 15) = 16 ∧ hN h (x + 15) = 16) ∧ ∀ i, i < 16 → hR h (x + 15) i = some (x + 123 + 5 * i) ∧ ST h (x + 123 + 5 * i) := p.2.2.2.2.2.2.2.1
theorem OB.dr (p : OB h x v w) : ST h (x + 16) := p.2.2.2.2.2.2.2.2.1
theorem OB.sd (p : OB h x v w) : DY h (x + 21) := p.2.2.2.2.2.2.2.2.2.1
theorem OB.wk (p : OB h x v w) : WK h (x + 23) := p.2.2.2.2.2.2.2.2.2.2.1
theorem OB.sp (p : OB h x v w) : SP h (x + 31) := p.2.2.2.2.2.2.2.2.2.2.2.1
theorem OB.vl (p : OB h x v w) : VL h v := p.2.2.2.2.2.2.2.2.2.2.2.2.1
theorem OB.wl (p : OB h x v w) : VL h w := p.2.2.2.2.2.2.2.2.2.2.2.2.2.1
theorem OB.fw (p : OB h x v w) : FW h x := p.2.2.2.2.2.2.2.2.2.2.2.2.2.2
theorem OB.st (p : OB h x v w) : ST h (x + 3 + 1) := p.mt.2.2.1
theorem c_has0 {N : Nat} (p : VA h v A) (a : Int32) : f_X6_has N v 0 a h = some (yes (¬ a < 0 ∧ ¬ nI (aC A 0) ≤ a), h) := c_has p.1 p.2.1 p.2.2.1 (k := 0) (by decide) a
theorem c_has1 {N : Nat} (p : VA h v A) (a : Int32) : f_X6_has N v 1 a h = some (yes (¬ a < 0 ∧ ¬ nI (aC A 1) ≤ a), h) := c_has p.1 p.2.1 p.2.2.1 (k := 1) (by decide) a
theorem c_has2 {N : Nat} (p : VA h v A) (a : Int32) : f_X6_has N v 2 a h = some (yes (¬ a < 0 ∧ ¬ nI (aC A 2) ≤ a), h) := c_has p.1 p.2.1 p.2.2.1 (k := 2) (by decide) a
theorem c_has3 {N : Nat} (p : VA h v A) (a : Int32) : f_X6_has N v 3 a h = some (yes (¬ a < 0 ∧ ¬ nI (aC A 3) ≤ a), h) := c_has p.1 p.2.1 p.2.2.1 (k := 3) (by decide) a
theorem c_has4 {N : Nat} (p : VA h v A) (a : Int32) : f_X6_has N v 4 a h = some (yes (¬ a < 0 ∧ ¬ nI (aC A 4) ≤ a), h) := c_has p.1 p.2.1 p.2.2.1 (k := 4) (by decide) a
theorem told {a : Int32} {n : Nat} (hn : n ≤ 1000) (c : ¬ a < 0 ∧ ¬ nI n ≤ a) : ∃ j, j < n ∧ a = nI j := by
  obtain ⟨j, hj, rfl⟩ := nI_of c.1
  refine ⟨j, ?_, rfl⟩
  have := c.2
  rw [nI_leI (by omega) hj] at this
  omega
theorem toldI {j n : Nat} (hn : n ≤ 1000) (h : j < n) : ¬ nI j < 0 ∧ ¬ nI n ≤ nI j := ⟨nI_pos (by omega), by rw [nI_leI (by omega) (by omega)]; omega⟩
theorem yesT {c : Prop} [Decidable c] (h : c) : yes c = 1 := if_pos h
theorem yesF {c : Prop} [Decidable c] (h : ¬ c) : yes c = 0 := if_neg h
theorem one0 : ¬ (1 : Int32) = 0 := by decide
end IST
