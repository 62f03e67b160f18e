/-! Laws: how they are read, and what is written down of them by both. -/
/-- where the reader is, the class's codes, the reference's -/
abbrev QS : Type := ZS × List Int32 × List Nat
def qC (c : Int32) (q : QS) : QS := if q.1.1 = 0 then (q.1, q.2.1 ++ [c], q.2.2) else q
def qN (X : TX) (r : Nat) (q : QS) : QS := (stp X q.1, q.2.1, q.2.2 ++ [r])
section LSP
variable (X : TX) (P : QS → QS)
def gPL : Nat → QS → QS
  | 0, q => q
  | n + 1, q => if sSg X q.1 42 = true then gPL n (qC (-13) (P (qN X 22 q))) else q
def gProd (q : QS) : QS := gPL X P 1000 (P q)
def gSL : Nat → QS → QS
  | 0, q => q
  | n + 1, q => if sSg X q.1 43 = true then gSL n (qC (-11) (gProd X P (qN X 20 q))) else if sSg X q.1 45 = true then gSL n (qC (-12) (gProd X P (qN X 21 q))) else q
def gSum (q : QS) : QS := gSL X P 1000 (gProd X P q)
def gTest (q : QS) : QS := if sSg X (gSum X P q).1 60 = true then qC (-9) (gSum X P (qN X 24 (gSum X P q))) else if sSg X (gSum X P q).1 61 = true then qC (-10) (gSum X P (qN X 25 (gSum X P q))) else gSum X P q
def gTL : Nat → QS → QS
  | 0, q => q
  | n + 1, q => if sWd X q.1 20 = true then gTL n (qC (-7) (gTest X P (qN X 26 q))) else if sWd X q.1 21 = true then gTL n (qC (-8) (gTest X P (qN X 27 q))) else q
def gTests (q : QS) : QS := gTL X P 1000 (gTest X P q)
end LSP
/-- which fact a word is -/
def gFact (X : TX) (o : Bool) (s : ZS) : Nat := if sWd X s 22 = true then 1 else if sWd X s 23 = true then 2 else if sWd X s 24 = true then 3 else if o = true ∧ sWd X s 25 = true then 4 else if o = true ∧ sWd X s 26 = true then 5 else 0
/-- its code in the class's row -/
def gFc (k : Nat) : Int32 := if k = 1 then -1 else if k = 2 then -2 else if k = 3 then -3 else if k = 4 then -4 else -5
/-- a ) is wanted -/
def gCl (X : TX) (q : QS) : QS := if sSg X q.1 41 = true then (stp X q.1, q.2.1, q.2.2 ++ [29]) else (flt X 1 q.1, q.2)
/-- whether a part can begin there -/
def gBeg (X : TX) (o : Bool) (s : ZS) : Bool := decide (gFact X o s ≠ 0) || sWd X s 19 || sSg X s 40 || sNu X s
def gPart (X : TX) (o : Bool) : Nat → QS → QS
  | 0 => fun q => if gBeg X o q.1 = true then (flt X 5 q.1, q.2) else (flt X 1 q.1, q.2)
  | e + 1 => fun q => if gBeg X o q.1 = true then (if sWd X q.1 19 = true then qC (-6) (gPart X o e (qN X 30 q)) else if sSg X q.1 40 = true then gCl X (gTests X (gPart X o e) (qN X 28 q)) else if gFact X o q.1 = 0 then (stp X q.1, q.2.1 ++ [nI (xnv X q.1.2)], q.2.2 ++ [100 + xnv X q.1.2]) else (stp X q.1, q.2.1 ++ [gFc (gFact X o q.1)], q.2.2 ++ [gFact X o q.1])) else (flt X 1 q.1, q.2)
/-! What both sides' codes do. -/
def cR (E : Nat → Int32) (C : List Int32) (st : List Int32) : List Int32 := C.foldl (evS (E 1) (E 2) (E 3) (E 4) (E 5)) st
/-- the reference's rows while it works: 17 kept, 18 by what, 19 ahead, 20 against, 21 sum, 22 by what, 23 term, 24 by what, 25 not -/
abbrev WF : Type := Nat → Nat → Int32
def wOp (f : WF) (d : Nat) : WF := up2 (up2 (up2 (up2 (up2 f 18 d 0) 20 d 0) 21 d 0) 22 d 20) 24 d 0
def wSv (f : WF) (d : Nat) : Int32 := if f 22 d = 21 then f 21 d - f 23 d else f 21 d + f 23 d
def wSm (f : WF) (d : Nat) : WF := up2 (up2 f 21 d (wSv f d)) 24 d 0
def wTv (f : WF) (d : Nat) (s : Int32) : Int32 := if f 20 d = 24 then (if s ≤ f 19 d then 0 else 1) else if f 20 d = 25 then (if f 19 d = s then 1 else 0) else s
def wKv (f : WF) (d : Nat) (t : Int32) : Int32 := if f 18 d = 26 then (if f 17 d = 0 then 0 else if t = 0 then 0 else 1) else if f 18 d = 27 then (if f 17 d = 0 then (if t = 0 then 0 else 1) else 1) else t
def wTs (f : WF) (d : Nat) : WF := up2 (up2 (up2 (up2 (wSm f d) 17 d (wKv f d (wTv f d (wSv f d)))) 20 d 0) 21 d 0) 22 d 20
def wPop (f : WF) : Nat → Int32 → Nat × Int32
  | 0, v => (0, v)
  | d + 1, v => if f 25 (d + 1) = 1 then wPop f d (if v = 0 then 1 else 0) else (d + 1, v)
def wFin (f : WF) (d : Nat) (v : Int32) : Nat × WF := ((wPop f d v).1, up2 f 23 (wPop f d v).1 (if f 24 (wPop f d v).1 = 0 then (wPop f d v).2 else f 23 (wPop f d v).1 * (wPop f d v).2))
def wSt (E : Nat → Int32) (p : Nat × WF) (c : Nat) : Nat × WF :=
  if c = 28 then (p.1 + 1, wOp (up2 p.2 25 (p.1 + 1) 0) (p.1 + 1))
  else if c = 30 then (p.1 + 1, wOp (up2 p.2 25 (p.1 + 1) 1) (p.1 + 1))
  else if c = 20 ∨ c = 21 then (p.1, up2 (wSm p.2 p.1) 22 p.1 (nI c))
  else if c = 22 then (p.1, up2 p.2 24 p.1 (nI c))
  else if c = 24 ∨ c = 25 then (p.1, up2 (up2 (up2 (up2 (wSm p.2 p.1) 19 p.1 (wSv p.2 p.1)) 20 p.1 (nI c)) 21 p.1 0) 22 p.1 20)
  else if c = 26 ∨ c = 27 then (p.1, up2 (wTs p.2 p.1) 18 p.1 (nI c))
  else if c = 29 then wFin (wTs p.2 p.1) (p.1 - 1) (wKv p.2 p.1 (wTv p.2 p.1 (wSv p.2 p.1)))
  else if 100 ≤ c then wFin p.2 p.1 (nI (c - 100))
  else wFin p.2 p.1 (E c)
def wR (E : Nat → Int32) (R : List Nat) (p : Nat × WF) : Nat × WF := R.foldl (wSt E) p
/-- both know the same facts -/
def okE (o : Bool) (E E' : Nat → Int32) : Prop := E 1 = E' 1 ∧ E 2 = E' 2 ∧ E 3 = E' 3 ∧ (o = true → E 4 = E' 4 ∧ E 5 = E' 5)
/-- rows below d stay; of d those that S does not name -/
def FrW (S : Nat → Prop) (d : Nat) (f g : WF) : Prop := (∀ r j, j < d → g r j = f r j) ∧ ∀ r, ¬ S r → g r d = f r d
def sPr (r : Nat) : Prop := r = 23 ∨ r = 24
def sSu (r : Nat) : Prop := 21 ≤ r ∧ r ≤ 24
def sTe (r : Nat) : Prop := 19 ≤ r ∧ r ≤ 24
def sTs (r : Nat) : Prop := 17 ≤ r ∧ r ≤ 24
/-- no not waits at d -/
def bsW (f : WF) (d : Nat) : Prop := d = 0 ∨ f 25 d = 0
def GP (o : Bool) (e d : Nat) (C : List Int32) (R : List Nat) : Prop := ∀ E E', okE o E E' → ∃ v : Int32, (∀ st : List Int32, st.length + (4 * e + 1) ≤ 32 → cR E C st = v :: st) ∧ ∀ f : WF, ∃ g : WF, wR E' R (d, f) = wFin g d v ∧ ∀ r j, j ≤ d → g r j = f r j
def GPr (o : Bool) (e d : Nat) (C : List Int32) (R : List Nat) : Prop := ∀ E E', okE o E E' → ∃ v : Int32, (∀ st : List Int32, st.length + (4 * e + 2) ≤ 32 → cR E C st = v :: st) ∧ ∀ f : WF, bsW f d → f 24 d = 0 → ∃ g : WF, wR E' R (d, f) = (d, g) ∧ g 23 d = v ∧ FrW sPr d f g
def GSu (o : Bool) (e d : Nat) (C : List Int32) (R : List Nat) : Prop := ∀ E E', okE o E E' → ∃ v : Int32, (∀ st : List Int32, st.length + (4 * e + 3) ≤ 32 → cR E C st = v :: st) ∧ ∀ f : WF, bsW f d → f 24 d = 0 → f 21 d = 0 → f 22 d = 20 → ∃ g : WF, wR E' R (d, f) = (d, g) ∧ wSv g d = v ∧ FrW sSu d f g
def GTe (o : Bool) (e d : Nat) (C : List Int32) (R : List Nat) : Prop := ∀ E E', okE o E E' → ∃ v : Int32, (∀ st : List Int32, st.length + (4 * e + 4) ≤ 32 → cR E C st = v :: st) ∧ ∀ f : WF, bsW f d → f 24 d = 0 → f 21 d = 0 → f 22 d = 20 → f 20 d = 0 → ∃ g : WF, wR E' R (d, f) = (d, g) ∧ wTv g d (wSv g d) = v ∧ FrW sTe d f g
def GTs (o : Bool) (e d : Nat) (C : List Int32) (R : List Nat) : Prop := ∀ E E', okE o E E' → ∃ v : Int32, (∀ st : List Int32, st.length + (4 * e + 5) ≤ 32 → cR E C st = v :: st) ∧ ∀ f : WF, bsW f d → f 24 d = 0 → f 21 d = 0 → f 22 d = 20 → f 20 d = 0 → f 18 d = 0 → ∃ g : WF, wR E' R (d, f) = (d, g) ∧ wKv g d (wTv g d (wSv g d)) = v ∧ FrW sTs d f g
section GOOD
variable {o : Bool} {e d : Nat} {C C1 C2 : List Int32} {R R1 R2 : List Nat} {E : Nat → Int32}
theorem cR_app {st : List Int32} : cR E (C1 ++ C2) st = cR E C2 (cR E C1 st) := List.foldl_append
theorem wR_app {p : Nat × WF} : wR E (R1 ++ R2) p = wR E R2 (wR E R1 p) := List.foldl_append
theorem up2_o {f : WF} {r k r' k' : Nat} {v : Int32} (h : r' ≠ r ∨ k' ≠ k) : up2 f r k v r' k' = f r' k' := by
  by_cases c : r' = r
  · subst c
    exact up2_k _ _ _ (by omega)
  · exact congrFun (up2_a _ _ _ c) k'
theorem FrW.rf {S : Nat → Prop} {f : WF} : FrW S d f f := ⟨fun _ _ _ => rfl, fun _ _ => rfl⟩
theorem FrW.trans {S : Nat → Prop} {f g k : WF} (p : FrW S d f g) (q : FrW S d g k) : FrW S d f k := ⟨fun r j h => (q.1 r j h).trans (p.1 r j h), fun r h => (q.2 r h).trans (p.2 r h)⟩
theorem FrW.mono {S T : Nat → Prop} {f g : WF} (h : ∀ r, S r → T r) (p : FrW S d f g) : FrW T d f g := ⟨p.1, fun r hr => p.2 r (fun z => hr (h r z))⟩
theorem FrW.up {S : Nat → Prop} {f : WF} {r : Nat} {v : Int32} (h : S r) : FrW S d f (up2 f r d v) := ⟨fun r' j hj => up2_o (Or.inr (by omega)), fun r' hr => up2_o (Or.inl (fun z => hr (by rw [z]; exact h)))⟩
theorem bs_pop {f : WF} (h : bsW f d) (v : Int32) : wPop f d v = (d, v) := by
  cases d with
  | zero => rfl
  | succ d =>
    unfold wPop
    rw [if_neg (by
      rcases h with h | h
      · omega
      · rw [h]; decide)]
theorem FrW.bs {S : Nat → Prop} {f g : WF} (h25 : ¬ S 25) (p : FrW S d f g) (h : bsW f d) : bsW g d := by
  rcases h with h | h
  · exact Or.inl h
  · exact Or.inr ((p.2 25 h25).trans h)
/-- the first part of a product -/
theorem GP.pr (p : GP o e d C R) : GPr o e d C R := fun E E' ok => by
  obtain ⟨v, p1, p2⟩ := p E E' ok
  refine ⟨v, fun st h => p1 st (by omega), fun f hb h24 => ?_⟩
  obtain ⟨g, q1, q2⟩ := p2 f
  have gb : bsW g d := by
    rcases hb with h | h
    · exact Or.inl h
    · exact Or.inr ((q2 25 d (Nat.le_refl d)).trans h)
  refine ⟨up2 g 23 d v, ?_, up2_self _ _ _ _, ⟨fun r j hj => by rw [up2_o (Or.inr (by omega))]; exact q2 r j (by omega), fun r hr => by rw [up2_o (Or.inl (fun z => hr (Or.inl z)))]; exact q2 r d (Nat.le_refl d)⟩⟩
  rw [q1]
  unfold wFin
  rw [bs_pop gb, if_pos (by rw [q2 24 d (Nat.le_refl d)]; exact h24)]
/-- one more part -/
theorem GPr.more (p : GPr o e d C1 R1) (q : GP o e d C2 R2) : GPr o e d (C1 ++ C2 ++ [-13]) (R1 ++ [22] ++ R2) := fun E E' ok => by
  obtain ⟨v, p1, p2⟩ := p E E' ok
  obtain ⟨u, q1, q2⟩ := q E E' ok
  refine ⟨v * u, fun st h => ?_, fun f hb h24 => ?_⟩
  · rw [cR_app, cR_app, p1 st h, q1 (v :: st) (by rw [List.length_cons]; omega)]
    rfl
  · obtain ⟨g, r1, r2, r3⟩ := p2 f hb h24
    obtain ⟨g2, s1, s2⟩ := q2 (up2 g 24 d (nI 22))
    have gb : bsW g d := r3.bs (by unfold sPr; omega) hb
    have gb2 : bsW g2 d := by
      rcases gb with h | h
      · exact Or.inl h
      · refine Or.inr ?_
        rw [s2 25 d (Nat.le_refl d), up2_o (Or.inl (by decide))]
        exact h
    have e24 : ¬ g2 24 d = 0 := by
      rw [s2 24 d (Nat.le_refl d), up2_self]
      decide
    have e23 : g2 23 d = v := by rw [s2 23 d (Nat.le_refl d), up2_o (Or.inl (by decide)), r2]
    refine ⟨up2 g2 23 d (v * u), ?_, up2_self _ _ _ _, ⟨fun r j hj => ?_, fun r hr => ?_⟩⟩
    · rw [wR_app, wR_app, r1]
      show wR E' R2 (wSt E' (d, g) 22) = _
      have : wSt E' (d, g) 22 = (d, up2 g 24 d (nI 22)) := rfl
      rw [this, s1]
      unfold wFin
      rw [bs_pop gb2, if_neg e24, e23]
    · rw [up2_o (Or.inr (by omega)), s2 r j (by omega), up2_o (Or.inr (by omega)), r3.1 r j hj]
    · rw [up2_o (Or.inl (fun z => hr (Or.inl z))), s2 r d (Nat.le_refl d), up2_o (Or.inl (fun z => hr (Or.inr z))), r3.2 r hr]
theorem GPr.su (p : GPr o e d C R) : GSu o e d C R := fun E E' ok => by
  obtain ⟨v, p1, p2⟩ := p E E' ok
  refine ⟨v, fun st h => p1 st (by omega), fun f hb h24 h21 h22 => ?_⟩
  obtain ⟨g, r1, r2, r3⟩ := p2 f hb h24
  refine ⟨g, r1, ?_, r3.mono (fun r hr => by unfold sPr at hr; unfold sSu; omega)⟩
  unfold wSv
  rw [r3.2 22 (by unfold sPr; omega), h22, if_neg (by decide), r3.2 21 (by unfold sPr; omega), h21, r2, Int32.zero_add]
/-- one more product; c: 20 plus, 21 minus -/
theorem GSu.more {c : Nat} {k : Int32} (hc : (c = 20 ∧ k = -11) ∨ (c = 21 ∧ k = -12)) (p : GSu o e d C1 R1) (q : GPr o e d C2 R2) : GSu o e d (C1 ++ C2 ++ [k]) (R1 ++ [c] ++ R2) := fun E E' ok => by
  obtain ⟨v, p1, p2⟩ := p E E' ok
  obtain ⟨u, q1, q2⟩ := q E E' ok
  refine ⟨jn k v u, fun st h => ?_, fun f hb h24 h21 h22 => ?_⟩
  · rw [cR_app, cR_app, p1 st h, q1 (v :: st) (by rw [List.length_cons]; omega)]
    rcases hc with ⟨-, rfl⟩ | ⟨-, rfl⟩ <;> rfl
  · obtain ⟨g, r1, r2, r3⟩ := p2 f hb h24 h21 h22
    have e0 : wSt E' (d, g) c = (d, up2 (wSm g d) 22 d (nI c)) := by rcases hc with ⟨rfl, -⟩ | ⟨rfl, -⟩ <;> rfl
    have k1 : FrW sSu d g (up2 (wSm g d) 22 d (nI c)) := ((FrW.up (by unfold sSu; omega)).trans (FrW.up (by unfold sSu; omega))).trans (FrW.up (by unfold sSu; omega))
    have kk := r3.trans k1
    obtain ⟨g2, s1, s2, s3⟩ := q2 (up2 (wSm g d) 22 d (nI c)) (kk.bs (by unfold sSu; omega) hb) (by rw [up2_o (Or.inl (by decide))]; exact up2_self _ _ _ _)
    refine ⟨g2, ?_, ?_, kk.trans (s3.mono (fun r hr => by unfold sPr at hr; unfold sSu; omega))⟩
    · rw [wR_app, wR_app, r1]
      show wR E' R2 (wSt E' (d, g) c) = _
      rw [e0, s1]
    · have a22 : g2 22 d = nI c := by rw [s3.2 22 (by unfold sPr; omega), up2_self]
      have a21 : g2 21 d = v := by
        rw [s3.2 21 (by unfold sPr; omega), up2_o (Or.inl (by decide))]
        unfold wSm
        rw [up2_o (Or.inl (by decide)), up2_self, r2]
      unfold wSv
      rw [a22, a21, s2]
      rcases hc with ⟨rfl, rfl⟩ | ⟨rfl, rfl⟩
      · rw [if_neg (by decide)]; rfl
      · rw [if_pos (by decide)]; rfl
theorem GSu.te (p : GSu o e d C R) : GTe o e d C R := fun E E' ok => by
  obtain ⟨v, p1, p2⟩ := p E E' ok
  refine ⟨v, fun st h => p1 st (by omega), fun f hb h24 h21 h22 h20 => ?_⟩
  obtain ⟨g, r1, r2, r3⟩ := p2 f hb h24 h21 h22
  refine ⟨g, r1, ?_, r3.mono (fun r hr => by unfold sSu at hr; unfold sTe; omega)⟩
  have e20 : g 20 d = 0 := (r3.2 20 (by unfold sSu; omega)).trans h20
  unfold wTv
  rw [e20, if_neg (by decide), if_neg (by decide), r2]
/-- two sums, compared; c: 24 less, 25 equal -/
theorem GSu.cmp {c : Nat} {k : Int32} (hc : (c = 24 ∧ k = -9) ∨ (c = 25 ∧ k = -10)) (p : GSu o e d C1 R1) (q : GSu o e d C2 R2) : GTe o e d (C1 ++ C2 ++ [k]) (R1 ++ [c] ++ R2) := fun E E' ok => by
  obtain ⟨v, p1, p2⟩ := p E E' ok
  obtain ⟨u, q1, q2⟩ := q E E' ok
  refine ⟨jn k v u, fun st h => ?_, fun f hb h24 h21 h22 h20 => ?_⟩
  · rw [cR_app, cR_app, p1 st (by omega), q1 (v :: st) (by rw [List.length_cons]; omega)]
    rcases hc with ⟨-, rfl⟩ | ⟨-, rfl⟩ <;> rfl
  · obtain ⟨g, r1, r2, r3⟩ := p2 f hb h24 h21 h22
    have e0 : wSt E' (d, g) c = (d, up2 (up2 (up2 (up2 (wSm g d) 19 d (wSv g d)) 20 d (nI c)) 21 d 0) 22 d 20) := by rcases hc with ⟨rfl, -⟩ | ⟨rfl, -⟩ <;> rfl
    have k1 : FrW sTe d g (up2 (up2 (up2 (up2 (wSm g d) 19 d (wSv g d)) 20 d (nI c)) 21 d 0) 22 d 20) := (((((FrW.up (by unfold sTe; omega)).trans (FrW.up (by unfold sTe; omega))).trans (FrW.up (by unfold sTe; omega))).trans (FrW.up (by unfold sTe; omega))).trans (FrW.up (by unfold sTe; omega))).trans (FrW.up (by unfold sTe; omega))
    have kk := (r3.mono (T := sTe) (fun r hr => by unfold sSu at hr; unfold sTe; omega)).trans k1
    obtain ⟨g2, s1, s2, s3⟩ := q2 (up2 (up2 (up2 (up2 (wSm g d) 19 d (wSv g d)) 20 d (nI c)) 21 d 0) 22 d 20) (kk.bs (by unfold sTe; omega) hb) (by
      rw [up2_o (Or.inl (by decide)), up2_o (Or.inl (by decide)), up2_o (Or.inl (by decide)), up2_o (Or.inl (by decide))]
      exact up2_self _ _ _ _) (by rw [up2_o (Or.inl (by decide)), up2_self]) (by rw [up2_self])
    refine ⟨g2, ?_, ?_, kk.trans (s3.mono (fun r hr => by unfold sSu at hr; unfold sTe; omega))⟩
    · rw [wR_app, wR_app, r1]
      show wR E' R2 (wSt E' (d, g) c) = _
      rw [e0, s1]
    · have a20 : g2 20 d = nI c := by rw [s3.2 20 (by unfold sSu; omega), up2_o (Or.inl (by decide)), up2_o (Or.inl (by decide)), up2_self]
      have a19 : g2 19 d = v := by rw [s3.2 19 (by unfold sSu; omega), up2_o (Or.inl (by decide)), up2_o (Or.inl (by decide)), up2_o (Or.inl (by decide)), up2_self, r2]
      unfold wTv
      rw [a20, a19, s2]
      rcases hc with ⟨rfl, rfl⟩ | ⟨rfl, rfl⟩
      · rw [if_pos (by decide)]; rfl
      · rw [if_neg (by decide), if_pos (by decide)]; rfl
theorem GTe.ts (p : GTe o e d C R) : GTs o e d C R := fun E E' ok => by
  obtain ⟨v, p1, p2⟩ := p E E' ok
  refine ⟨v, fun st h => p1 st (by omega), fun f hb h24 h21 h22 h20 h18 => ?_⟩
  obtain ⟨g, r1, r2, r3⟩ := p2 f hb h24 h21 h22 h20
  refine ⟨g, r1, ?_, r3.mono (fun r hr => by unfold sTe at hr; unfold sTs; omega)⟩
  have e18 : g 18 d = 0 := (r3.2 18 (by unfold sTe; omega)).trans h18
  unfold wKv
  rw [e18, if_neg (by decide), if_neg (by decide), r2]
theorem wTs_f (g : WF) : FrW sTs d g (wTs g d) := (((((FrW.up (by unfold sTs; omega)).trans (FrW.up (by unfold sTs; omega))).trans (FrW.up (by unfold sTs; omega))).trans (FrW.up (by unfold sTs; omega))).trans (FrW.up (by unfold sTs; omega))).trans (FrW.up (by unfold sTs; omega))
/-- one more test; c: 26 and, 27 or -/
theorem GTs.more {c : Nat} {k : Int32} (hc : (c = 26 ∧ k = -7) ∨ (c = 27 ∧ k = -8)) (p : GTs o e d C1 R1) (q : GTe o e d C2 R2) : GTs o e d (C1 ++ C2 ++ [k]) (R1 ++ [c] ++ R2) := fun E E' ok => by
  obtain ⟨v, p1, p2⟩ := p E E' ok
  obtain ⟨u, q1, q2⟩ := q E E' ok
  refine ⟨jn k v u, fun st h => ?_, fun f hb h24 h21 h22 h20 h18 => ?_⟩
  · rw [cR_app, cR_app, p1 st h, q1 (v :: st) (by rw [List.length_cons]; omega)]
    rcases hc with ⟨-, rfl⟩ | ⟨-, rfl⟩ <;> rfl
  · obtain ⟨g, r1, r2, r3⟩ := p2 f hb h24 h21 h22 h20 h18
    have e0 : wSt E' (d, g) c = (d, up2 (wTs g d) 18 d (nI c)) := by rcases hc with ⟨rfl, -⟩ | ⟨rfl, -⟩ <;> rfl
    have k1 : FrW sTs d g (up2 (wTs g d) 18 d (nI c)) := (wTs_f g).trans (FrW.up (by unfold sTs; omega))
    have kk := r3.trans k1
    have a24 : up2 (wTs g d) 18 d (nI c) 24 d = 0 := by
      unfold wTs
      rw [up2_o (Or.inl (by decide)), up2_o (Or.inl (by decide)), up2_o (Or.inl (by decide)), up2_o (Or.inl (by decide)), up2_o (Or.inl (by decide))]
      exact up2_self _ _ _ _
    have a21 : up2 (wTs g d) 18 d (nI c) 21 d = 0 := by
      unfold wTs
      rw [up2_o (Or.inl (by decide)), up2_o (Or.inl (by decide)), up2_self]
    have a22 : up2 (wTs g d) 18 d (nI c) 22 d = 20 := by
      unfold wTs
      rw [up2_o (Or.inl (by decide)), up2_self]
    have a20 : up2 (wTs g d) 18 d (nI c) 20 d = 0 := by
      unfold wTs
      rw [up2_o (Or.inl (by decide)), up2_o (Or.inl (by decide)), up2_o (Or.inl (by decide)), up2_self]
    have a17 : up2 (wTs g d) 18 d (nI c) 17 d = v := by
      unfold wTs
      rw [up2_o (Or.inl (by decide)), up2_o (Or.inl (by decide)), up2_o (Or.inl (by decide)), up2_o (Or.inl (by decide)), up2_self, r2]
    obtain ⟨g2, s1, s2, s3⟩ := q2 (up2 (wTs g d) 18 d (nI c)) (kk.bs (by unfold sTs; omega) hb) a24 a21 a22 a20
    refine ⟨g2, ?_, ?_, kk.trans (s3.mono (fun r hr => by unfold sTe at hr; unfold sTs; omega))⟩
    · rw [wR_app, wR_app, r1]
      show wR E' R2 (wSt E' (d, g) c) = _
      rw [e0, s1]
    · have b18 : g2 18 d = nI c := by rw [s3.2 18 (by unfold sTe; omega), up2_self]
      have b17 : g2 17 d = v := by rw [s3.2 17 (by unfold sTe; omega), a17]
      unfold wKv
      rw [b18, b17, s2]
      rcases hc with ⟨rfl, rfl⟩ | ⟨rfl, rfl⟩
      · rw [if_pos (by decide)]; rfl
      · rw [if_neg (by decide), if_pos (by decide)]; rfl
/-! parts -/
theorem GP.num {n : Nat} (hn : n < 10000) : GP o e d [nI n] [100 + n] := fun E E' ok => by
  refine ⟨nI n, fun st h => ?_, fun f => ⟨f, ?_, fun _ _ _ => rfl⟩⟩
  · show evS (E 1) (E 2) (E 3) (E 4) (E 5) st (nI n) = _
    unfold evS
    rw [if_neg (show ¬ nI n < -5 by rw [fa_lt, nI_toInt (by omega), show (-5 : Int32).toInt = -5 by decide]; omega), if_neg (by omega), if_neg (nI_pos (by omega))]
  · show wSt E' (d, f) (100 + n) = _
    unfold wSt
    rw [if_neg (by omega), if_neg (by omega), if_neg (by omega), if_neg (by omega), if_neg (by omega), if_neg (by omega), if_neg (by omega), if_pos (by omega), Nat.add_sub_cancel_left]
theorem GP.fact {k : Nat} (hk : 1 ≤ k ∧ k ≤ 5) (ho : o = true ∨ k ≤ 3) : GP o e d [gFc k] [k] := fun E E' ok => by
  have eE : E k = E' k := by
    rcases (show k = 1 ∨ k = 2 ∨ k = 3 ∨ k = 4 ∨ k = 5 by omega) with rfl | rfl | rfl | rfl | rfl
    · exact ok.1
    · exact ok.2.1
    · exact ok.2.2.1
    · exact (ok.2.2.2 (ho.resolve_right (by omega))).1
    · exact (ok.2.2.2 (ho.resolve_right (by omega))).2
  refine ⟨E' k, fun st h => ?_, fun f => ⟨f, ?_, fun _ _ _ => rfl⟩⟩
  · rw [← eE]
    show evS (E 1) (E 2) (E 3) (E 4) (E 5) st (gFc k) = _
    unfold evS
    rcases (show k = 1 ∨ k = 2 ∨ k = 3 ∨ k = 4 ∨ k = 5 by omega) with rfl | rfl | rfl | rfl | rfl <;> rw [if_neg (by decide), if_neg (by omega), if_pos (by decide)] <;> rfl
  · show wSt E' (d, f) k = _
    unfold wSt
    rw [if_neg (by omega), if_neg (by omega), if_neg (by omega), if_neg (by omega), if_neg (by omega), if_neg (by omega), if_neg (by omega), if_neg (by omega)]
theorem GP.no (p : GP o e (d + 1) C R) : GP o (e + 1) d (C ++ [-6]) ([30] ++ R) := fun E E' ok => by
  obtain ⟨v, p1, p2⟩ := p E E' ok
  refine ⟨if v = 0 then 1 else 0, fun st h => ?_, fun f => ?_⟩
  · rw [cR_app, p1 st (by omega)]
    rfl
  · obtain ⟨g, r1, r2⟩ := p2 (wOp (up2 f 25 (d + 1) 1) (d + 1))
    have e25 : g 25 (d + 1) = 1 := by
      rw [r2 25 (d + 1) (Nat.le_refl _)]
      unfold wOp
      rw [up2_o (Or.inl (by decide)), up2_o (Or.inl (by decide)), up2_o (Or.inl (by decide)), up2_o (Or.inl (by decide)), up2_o (Or.inl (by decide)), up2_self]
    refine ⟨g, ?_, fun r j hj => ?_⟩
    · rw [wR_app]
      show wR E' R (wSt E' (d, f) 30) = _
      have : wSt E' (d, f) 30 = (d + 1, wOp (up2 f 25 (d + 1) 1) (d + 1)) := rfl
      rw [this, r1]
      unfold wFin
      have : wPop g (d + 1) v = wPop g d (if v = 0 then 1 else 0) := if_pos e25
      rw [this]
    · rw [r2 r j (by omega)]
      unfold wOp
      rw [up2_o (Or.inr (by omega)), up2_o (Or.inr (by omega)), up2_o (Or.inr (by omega)), up2_o (Or.inr (by omega)), up2_o (Or.inr (by omega)), up2_o (Or.inr (by omega))]
theorem GTs.part (p : GTs o e (d + 1) C R) : GP o (e + 1) d C ([28] ++ R ++ [29]) := fun E E' ok => by
  obtain ⟨v, p1, p2⟩ := p E E' ok
  refine ⟨v, fun st h => p1 st (by omega), fun f => ?_⟩
  have b25 : wOp (up2 f 25 (d + 1) 0) (d + 1) 25 (d + 1) = 0 := by
    unfold wOp
    rw [up2_o (Or.inl (by decide)), up2_o (Or.inl (by decide)), up2_o (Or.inl (by decide)), up2_o (Or.inl (by decide)), up2_o (Or.inl (by decide)), up2_self]
  have b24 : wOp (up2 f 25 (d + 1) 0) (d + 1) 24 (d + 1) = 0 := up2_self _ _ _ _
  have b22 : wOp (up2 f 25 (d + 1) 0) (d + 1) 22 (d + 1) = 20 := by
    unfold wOp
    rw [up2_o (Or.inl (by decide)), up2_self]
  have b21 : wOp (up2 f 25 (d + 1) 0) (d + 1) 21 (d + 1) = 0 := by
    unfold wOp
    rw [up2_o (Or.inl (by decide)), up2_o (Or.inl (by decide)), up2_self]
  have b20 : wOp (up2 f 25 (d + 1) 0) (d + 1) 20 (d + 1) = 0 := by
    unfold wOp
    rw [up2_o (Or.inl (by decide)), up2_o (Or.inl (by decide)), up2_o (Or.inl (by decide)), up2_self]
  have b18 : wOp (up2 f 25 (d + 1) 0) (d + 1) 18 (d + 1) = 0 := by
    unfold wOp
    rw [up2_o (Or.inl (by decide)), up2_o (Or.inl (by decide)), up2_o (Or.inl (by decide)), up2_o (Or.inl (by decide)), up2_self]
  have lo : ∀ r j, j ≤ d → wOp (up2 f 25 (d + 1) 0) (d + 1) r j = f r j := fun r j hj => by
    unfold wOp
    rw [up2_o (Or.inr (by omega)), up2_o (Or.inr (by omega)), up2_o (Or.inr (by omega)), up2_o (Or.inr (by omega)), up2_o (Or.inr (by omega)), up2_o (Or.inr (by omega))]
  obtain ⟨g, r1, r2, r3⟩ := p2 (wOp (up2 f 25 (d + 1) 0) (d + 1)) (Or.inr b25) b24 b21 b22 b20 b18
  refine ⟨wTs g (d + 1), ?_, fun r j hj => ?_⟩
  · rw [wR_app, wR_app]
    show wR E' [29] (wR E' R (wSt E' (d, f) 28)) = _
    have : wSt E' (d, f) 28 = (d + 1, wOp (up2 f 25 (d + 1) 0) (d + 1)) := rfl
    rw [this, r1]
    show wSt E' (d + 1, g) 29 = _
    have : wSt E' (d + 1, g) 29 = wFin (wTs g (d + 1)) d (wKv g (d + 1) (wTv g (d + 1) (wSv g (d + 1)))) := rfl
    rw [this, r2]
  · rw [(wTs_f (d := d + 1) g).1 r j (by omega), r3.1 r j (by omega), lo r j hj]
end GOOD
