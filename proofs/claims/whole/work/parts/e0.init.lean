/-! Constructors: what is made stays made. -/
/-- the cells from a on, n of them, are as they were -/
def Sam (a n : Nat) (h h' : PH) : Prop := ∀ z, a ≤ z → z < a + n → hK h' z = hK h z ∧ hN h' z = hN h z ∧ hI h' z = hI h z ∧ hR h' z = hR h z
section SAM
variable {a n : Nat} {h h' : PH}
theorem Sam.sub {b m : Nat} (e : Sam a n h h') (h1 : a ≤ b) (h2 : b + m ≤ a + n) : Sam b m h h' := fun z z1 z2 => e z (by omega) (by omega)
theorem ST.sam (e : Sam a 5 h h') (p : ST h a) : ST h' a := by
  have e0 := e a (by omega) (by omega)
  have e1 := e (a + 1) (by omega) (by omega)
  have e2 := e (a + 2) (by omega) (by omega)
  have e3 := e (a + 3) (by omega) (by omega)
  have e4 := e (a + 4) (by omega) (by omega)
  unfold ST IA at p ⊢
  rw [e0.1, e0.2.2.2, e1.1, e1.2.1, e2.1, e2.2.1, e3.1, e3.2.1, e4.1, e4.2.1]
  exact p
theorem DY.sam (e : Sam a 2 h h') (p : DY h a) : DY h' a := by
  have e0 := e a (by omega) (by omega)
  have e1 := e (a + 1) (by omega) (by omega)
  unfold DY IA at p ⊢
  rw [e0.1, e0.2.2.2, e1.1, e1.2.1]
  exact p
theorem TP.sam (e : Sam a 2 h h') (p : TP h a) : TP h' a := by
  have e0 := e a (by omega) (by omega)
  have e1 := e (a + 1) (by omega) (by omega)
  unfold TP at p ⊢
  rw [e0.1, e0.2.2.2, e1.1, e1.2.1]
  exact p
theorem WK.sam (e : Sam a 8 h h') (p : WK h a) : WK h' a := by
  have e0 := e a (by omega) (by omega)
  have e1 := e (a + 1) (by omega) (by omega)
  have e2 := e (a + 2) (by omega) (by omega)
  have e3 := e (a + 3) (by omega) (by omega)
  have e4 := e (a + 4) (by omega) (by omega)
  have e5 := e (a + 5) (by omega) (by omega)
  have e6 := e (a + 6) (by omega) (by omega)
  have e7 := e (a + 7) (by omega) (by omega)
  unfold WK IA at p ⊢
  rw [e0.1, e0.2.2.2, e1.1, e1.2.1, e2.1, e2.2.1, e3.1, e3.2.1, e4.1, e4.2.1, e5.1, e5.2.1, e6.1, e6.2.1, e7.1, e7.2.1]
  exact p
theorem SP.sam (e : Sam a 10 h h') (p : SP h a) : SP h' a := by
  have e0 := e a (by omega) (by omega)
  have e1 := e (a + 1) (by omega) (by omega)
  have e2 := e (a + 2) (by omega) (by omega)
  have e3 := e (a + 3) (by omega) (by omega)
  have e4 := e (a + 4) (by omega) (by omega)
  have e5 := e (a + 5) (by omega) (by omega)
  have e6 := e (a + 6) (by omega) (by omega)
  have e7 := e (a + 7) (by omega) (by omega)
  have e8 := e (a + 8) (by omega) (by omega)
  have e9 := e (a + 9) (by omega) (by omega)
  unfold SP IA at p ⊢
  rw [e0.1, e0.2.2.2, e1.1, e1.2.1, e2.1, e2.2.1, e3.1, e3.2.1, e4.1, e4.2.1, e5.1, e5.2.1, e6.1, e6.2.1, e7.1, e7.2.1, e8.1, e8.2.1, e9.1, e9.2.1]
  exact p
theorem VL.sam (e : Sam a 18 h h') (p : VL h a) : VL h' a := by
  have e0 := e a (by omega) (by omega)
  have e1 := e (a + 1) (by omega) (by omega)
  have e2 := e (a + 2) (by omega) (by omega)
  have e3 := e (a + 3) (by omega) (by omega)
  have e4 := e (a + 4) (by omega) (by omega)
  have e5 := e (a + 5) (by omega) (by omega)
  have e6 := e (a + 6) (by omega) (by omega)
  have e7 := e (a + 7) (by omega) (by omega)
  have e8 := e (a + 8) (by omega) (by omega)
  have e9 := e (a + 9) (by omega) (by omega)
  have e10 := e (a + 10) (by omega) (by omega)
  have e11 := e (a + 11) (by omega) (by omega)
  have e12 := e (a + 12) (by omega) (by omega)
  have e13 := e (a + 13) (by omega) (by omega)
  have e14 := e (a + 14) (by omega) (by omega)
  have e15 := e (a + 15) (by omega) (by omega)
  have e16 := e (a + 16) (by omega) (by omega)
  have e17 := e (a + 17) (by omega) (by omega)
  unfold VL IA at p ⊢
  rw [e0.1, e0.2.2.2, e1.1, e1.2.1, e2.1, e2.2.1, e3.1, e3.2.1, e4.1, e4.2.1, e5.1, e5.2.1, e6.1, e6.2.1, e7.1, e7.2.1, e8.1, e8.2.1, e9.1, e9.2.1, e10.1, e10.2.1, e17.1, e17.2.1, e11.1, e11.2.2.2, e12.1, e12.2.1, e13.1, e13.2.1, e14.1, e14.2.2.2, e15.1, e15.2.1, e16.1, e16.2.1]
  exact p
theorem MT.sam (e : Sam a 11 h h') (p : MT h a) : MT h' a := by
  have e0 := e a (by omega) (by omega)
  have e8 := e (a + 8) (by omega) (by omega)
  have e9 := e (a + 9) (by omega) (by omega)
  have e10 := e (a + 10) (by omega) (by omega)
  obtain ⟨p1, p2, p3, p4, p5, p6, p7⟩ := p
  refine ⟨e0.1.trans p1, by rw [e0.2.2.2]; exact p2, p3.sam (e.sub (by omega) (by omega)), p4.sam (e.sub (by omega) (by omega)), ?_, ?_, ?_⟩
  · exact ⟨e8.1.trans p5.1, e8.2.1.trans p5.2⟩
  · exact ⟨e9.1.trans p6.1, e9.2.1.trans p6.2⟩
  · exact ⟨e10.1.trans p7.1, e10.2.1.trans p7.2⟩
theorem CS.sam {S : AS} (e : Sam a 5 h h') (p : CS h a S) : CS h' a S := by
  unfold CS at p ⊢
  rw [(e a (by omega) (by omega)).2.2.1, (e (a + 1) (by omega) (by omega)).2.2.1, (e (a + 2) (by omega) (by omega)).2.2.1, (e (a + 3) (by omega) (by omega)).2.2.1, (e (a + 4) (by omega) (by omega)).2.2.1]
  exact p
/-- a law's cells -/
def LWs (h : PH) (a : Nat) (v : Int32) : Prop := hK h a = 1 ∧ (hR h a 1 = some (a + 1) ∧ hR h a 2 = some (a + 2)) ∧ IA h (a + 1) 1000 ∧ IA h (a + 2) 32 ∧ hI h a 0 = v ∧ hI h a 3 = 0
theorem LWs.sam {v : Int32} (e : Sam a 3 h h') (p : LWs h a v) : LWs h' a v := by
  have e0 := e a (by omega) (by omega)
  have e1 := e (a + 1) (by omega) (by omega)
  have e2 := e (a + 2) (by omega) (by omega)
  unfold LWs IA at p ⊢
  rw [e0.1, e0.2.2.2, e1.1, e1.2.1, e2.1, e2.2.1, e0.2.2.1]
  exact p
end SAM
/-- the valley before any is read -/
def A0 : AV := mkA D0
def S0 : AS := sFresh A0
theorem A0_W : WV A0 := mk_WV GD_0
/-- things by a number: how many cells, what they are when they are new -/
def sz : Nat → Nat
  | 0 => 2
  | 1 => 11
  | 2 => 10
  | 3 => 5
  | 4 => 2
  | 5 => 18
  | 6 => 8
  | _ => 3
def OT : Nat → PH → Nat → Prop
  | 0, h, a => DY h a ∧ hI h a 1 = 0
  | 1, h, a => MT h a ∧ CS h (a + 1) S0 ∧ hI h (a + 6) 1 = 0 ∧ hI h a 5 = 0
  | 2, h, a => SP h a ∧ (hI h (a + 5) = fun _ => 0) ∧ hI h (a + 6) = fun _ => 0
  | 3, h, a => ST h a ∧ CS h a S0
  | 4, h, a => TP h a ∧ hI h a 1 = 0
  | 5, h, a => VL h a ∧ (∀ k, k ≤ 10 → hI h (a + k) = fun _ => 0) ∧ (hI h (a + 11) 0 = 1 ∧ hI h (a + 11) 3 = 0) ∧ hI h (a + 14) 0 = 0 ∧ hI h (a + 14) 3 = 0
  | 6, h, a => WK h a
  | 7, h, a => LWs h a 1
  | _, h, a => LWs h a 0
theorem OT.sam {h h' : PH} {a : Nat} : ∀ t, Sam a (sz t) h h' → OT t h a → OT t h' a
  | 0, e, p => ⟨p.1.sam e, by rw [(e a (Nat.le_refl a) (Nat.lt_add_of_pos_right (by decide))).2.2.1]; exact p.2⟩
  | 1, e, p => ⟨p.1.sam e, p.2.1.sam (Sam.sub (a := a) (n := 11) e (by omega) (by omega)), by rw [(e (a + 6) (by omega) (show a + 6 < a + 11 by omega)).2.2.1]; exact p.2.2.1, by rw [(e a (Nat.le_refl a) (Nat.lt_add_of_pos_right (by decide))).2.2.1]; exact p.2.2.2⟩
  | 2, e, p => ⟨SP.sam e p.1, by rw [(e (a + 5) (by omega) (show a + 5 < a + 10 by omega)).2.2.1]; exact p.2.1, by rw [(e (a + 6) (by omega) (show a + 6 < a + 10 by omega)).2.2.1]; exact p.2.2⟩
  | 3, e, p => ⟨p.1.sam e, p.2.sam e⟩
  | 4, e, p => ⟨p.1.sam e, by rw [(e a (Nat.le_refl a) (Nat.lt_add_of_pos_right (by decide))).2.2.1]; exact p.2⟩
  | 5, e, p => ⟨p.1.sam e, fun k hk => by rw [(e (a + k) (by omega) (show a + k < a + 18 by omega)).2.2.1]; exact p.2.1 k hk, by rw [(e (a + 11) (by omega) (show a + 11 < a + 18 by omega)).2.2.1]; exact p.2.2.1, by rw [(e (a + 14) (by omega) (show a + 14 < a + 18 by omega)).2.2.1]; exact p.2.2.2⟩
  | 6, e, p => WK.sam e p
  | 7, e, p => LWs.sam e p
  | _ + 8, e, p => LWs.sam e p
theorem sz_p : ∀ t, 1 ≤ sz t
  | 0 => by decide
  | 1 => by decide
  | 2 => by decide
  | 3 => by decide
  | 4 => by decide
  | 5 => by decide
  | 6 => by decide
  | 7 => by decide
  | _ + 8 => by show 1 ≤ 3; decide
/-- the old cells are as they were, n new ones stand behind them -/
def Gr (n : Nat) (h h' : PH) : Prop := (hz h' = hz h + n ∧ hW h' = hW h) ∧ ∀ z, z < hz h → hK h' z = hK h z ∧ hN h' z = hN h z ∧ hI h' z = hI h z ∧ hR h' z = hR h z
theorem Gr.sam {n b m : Nat} {h h' : PH} (g : Gr n h h') (l : b + m ≤ hz h) : Sam b m h h' := fun z z1 z2 => g.2 z (by omega)
theorem Gr.shp {x n : Nat} {h h' : PH} (g : Gr n h h') : Shp x h h' := ⟨g.1.2, by rw [g.1.1]; exact Nat.le_add_right _ _, fun z hz => ⟨(g.2 z hz).1, (g.2 z hz).2.1⟩, fun z k hz _ _ _ => by rw [(g.2 z hz).2.2.2]⟩
theorem Gr.trans {n m : Nat} {h h1 h' : PH} (g : Gr n h h1) (k : Gr m h1 h') : Gr (n + m) h h' := ⟨⟨by rw [k.1.1, g.1.1, Nat.add_assoc], k.1.2.trans g.1.2⟩, fun z hz => by
  have a := g.2 z hz
  have b := k.2 z (by rw [g.1.1]; omega)
  exact ⟨b.1.trans a.1, b.2.1.trans a.2.1, b.2.2.1.trans a.2.2.1, b.2.2.2.trans a.2.2.2⟩⟩
/-- the log: what a constructor of kind K at the end of h0 has made: links (cell, slot, target), arrays, things -/
def Alc (h0 : PH) (K n : Nat) (lk ar : List (Nat × Nat × Nat)) (os : List (Nat × Nat)) (h : PH) : Prop := (Gr (1 + n) h0 h ∧ hK h (hz h0) = K ∧ hI h (hz h0) = fun _ => 0) ∧ (∀ q ∈ lk, hR h (hz h0 + q.1) q.2.1 = some (hz h0 + q.2.2)) ∧ (∀ q ∈ ar, (1 ≤ q.1 ∧ q.1 ≤ n) ∧ hK h (hz h0 + q.1) = q.2.1 ∧ hN h (hz h0 + q.1) = q.2.2 ∧ hI h (hz h0 + q.1) = fun _ => 0) ∧ (∀ q ∈ os, (1 ≤ q.2 ∧ q.2 + sz q.1 ≤ n + 1) ∧ OT q.1 h (hz h0 + q.2)) ∧ ∀ q ∈ lk, q.1 ≤ n
section ALC
variable {h0 h : PH} {K n : Nat} {lk ar : List (Nat × Nat × Nat)} {os : List (Nat × Nat)}
theorem Gr.nw {h : PH} {kd len : Nat} : Gr 1 h (nwh h kd len) := ⟨⟨rfl, rfl⟩, fun z hz' => ⟨va_ne (Nat.ne_of_lt hz'), va_ne (Nat.ne_of_lt hz'), va_ne (Nat.ne_of_lt hz'), va_ne (Nat.ne_of_lt hz')⟩⟩
theorem Alc.z (p : Alc h0 K n lk ar os h) : hz h = hz h0 + (1 + n) := p.1.1.1.1
theorem Alc.new {h0 : PH} {K : Nat} : Alc h0 K 0 [] [] [] (nwh h0 K 0) := ⟨⟨Gr.nw, va_eq, va_eq⟩, fun q hq => absurd hq (List.not_mem_nil), fun q hq => absurd hq (List.not_mem_nil), fun q hq => absurd hq (List.not_mem_nil), fun q hq => absurd hq (List.not_mem_nil)⟩
/-- more is made, of which nothing is known -/
theorem Alc.gr {m : Nat} {h' : PH} (p : Alc h0 K n lk ar os h) (g : Gr m h h') : Alc h0 K (n + m) lk ar os h' := by
  obtain ⟨⟨p1, p2, p3⟩, p4, p5, p6, p7⟩ := p
  have z := p1.1.1
  refine ⟨⟨by rw [← Nat.add_assoc]; exact p1.trans g, (g.2 _ (by omega)).1.trans p2, (g.2 _ (by omega)).2.2.1.trans p3⟩, fun q hq => ?_, fun q hq => ?_, fun q hq => ?_, fun q hq => Nat.le_trans (p7 q hq) (Nat.le_add_right _ _)⟩
  · have := p7 q hq
    rw [(g.2 (hz h0 + q.1) (by omega)).2.2.2]
    exact p4 q hq
  · obtain ⟨a1, a2⟩ := p5 q hq
    have e := g.2 (hz h0 + q.1) (by omega)
    rw [e.1, e.2.1, e.2.2.1]
    exact ⟨⟨a1.1, Nat.le_trans a1.2 (Nat.le_add_right _ _)⟩, a2⟩
  · obtain ⟨a1, a2⟩ := p6 q hq
    exact ⟨⟨a1.1, by omega⟩, OT.sam q.1 (g.sam (by omega)) a2⟩
/-- a link is set in a cell that is no thing's -/
theorem Alc.ln {b k i : Nat} (hb : b ≤ n) (fr : ∀ q ∈ lk, q.1 ≠ b ∨ q.2.1 ≠ k) (no : ∀ q ∈ os, b < q.2 ∨ q.2 + sz q.1 ≤ b) (p : Alc h0 K n lk ar os h) : Alc h0 K n ((b, k, i) :: lk) ar os (sR h (hz h0 + b) k (some (hz h0 + i))) := by
  obtain ⟨⟨p1, p2, p3⟩, p4, p5, p6, p7⟩ := p
  have r : ∀ z, z ≠ hz h0 + b → hR (sR h (hz h0 + b) k (some (hz h0 + i))) z = hR h z := fun z hz => by rw [hR_sR]; exact up2_a _ _ _ hz
  refine ⟨⟨⟨p1.1, fun z hz => ?_⟩, p2, p3⟩, fun q hq => ?_, p5, fun q hq => ?_, fun q hq => ?_⟩
  · have := p1.2 z hz
    refine ⟨this.1, this.2.1, this.2.2.1, ?_⟩
    rw [r z (by omega)]
    exact this.2.2.2
  · rcases List.mem_cons.mp hq with rfl | hq
    · rw [hR_sR]; exact up2_self _ _ _ _
    · have f := fr q hq
      rw [hR_sR]
      by_cases e : q.1 = b
      · rw [e, up2_k _ _ _ (f.resolve_left (fun w => w e)), ← e]
        exact p4 q hq
      · rw [up2_a _ _ _ (by omega)]
        exact p4 q hq
  · obtain ⟨a1, a2⟩ := p6 q hq
    have f := no q hq
    refine ⟨a1, OT.sam (h := h) q.1 (fun z z1 z2 => ⟨rfl, rfl, rfl, r z (by omega)⟩) a2⟩
  · rcases List.mem_cons.mp hq with rfl | hq
    · exact hb
    · exact p7 q hq
/-- an array and the link to it -/
theorem Alc.arr {α : Type} (kd len k : Nat) (fr : ∀ q ∈ lk, q.1 ≠ 0 ∨ q.2.1 ≠ k) (p : Alc h0 K n lk ar os h) : ∃ h', (∀ c : PH → Option α, (bd (hz h) fun a1 => bd (nwh h kd len) fun h2 => ck (hK h2 (hz h0) = K) <| bd (sR h2 (hz h0) k (some a1)) fun h4 => c h4) = c h') ∧ Alc h0 K (n + 1) ((0, k, n + 1) :: lk) ((n + 1, kd, len) :: ar) os h' := by
  have z := p.z
  have e1 : hz h = hz h0 + (n + 1) := by omega
  have p1 := p.gr (Gr.nw (h := h) (kd := kd) (len := len))
  have p2 : Alc h0 K (n + 1) lk ((n + 1, kd, len) :: ar) os (nwh h kd len) := by
    obtain ⟨q1, q2, q3, q4, q5⟩ := p1
    refine ⟨q1, q2, fun q hq => ?_, q4, q5⟩
    rcases List.mem_cons.mp hq with rfl | hq
    · refine ⟨⟨by show 1 ≤ n + 1; omega, Nat.le_refl _⟩, ?_, ?_, ?_⟩
      · show hK (nwh h kd len) (hz h0 + (n + 1)) = kd
        rw [← e1]; exact va_eq
      · show hN (nwh h kd len) (hz h0 + (n + 1)) = len
        rw [← e1]; exact va_eq
      · show hI (nwh h kd len) (hz h0 + (n + 1)) = fun _ => 0
        rw [← e1]; exact va_eq
    · exact q3 q hq
  have p3 := Alc.ln (b := 0) (k := k) (i := n + 1) (Nat.zero_le _) fr (fun q hq => Or.inl (p2.2.2.2.1 q hq).1.1) p2
  refine ⟨_, fun c => ?_, p3⟩
  rw [bd_e, bd_e, ck_p p2.1.2.1, bd_e, ← e1, Nat.add_zero]
/-- a constructor -/
def InS (t kd : Nat) (f : Nat → PH → Option (Unit × PH)) : Prop := ∀ h, ∃ h', f (hz h) (nwh h kd 0) = some ((), h') ∧ Gr (sz t) h h' ∧ OT t h' (hz h)
theorem Alc.mk {t kd : Nat} {f : Nat → PH → Option (Unit × PH)} (F : InS t kd f) (p : Alc h0 K n lk ar os h) : ∃ h', f (hz h) (nwh h kd 0) = some ((), h') ∧ Alc h0 K (n + sz t) lk ar ((t, n + 1) :: os) h' ∧ hz h = hz h0 + (n + 1) ∧ OT t h' (hz h) := by
  obtain ⟨h', a1, a2, a3⟩ := F h
  have z := p.z
  have e1 : hz h = hz h0 + (n + 1) := by omega
  obtain ⟨q1, q2, q3, q4, q5⟩ := p.gr a2
  refine ⟨h', a1, ⟨q1, q2, q3, fun q hq => ?_, q5⟩, e1, a3⟩
  rcases List.mem_cons.mp hq with rfl | hq
  · exact ⟨⟨by show 1 ≤ n + 1; omega, by show n + 1 + sz t ≤ n + sz t + 1; omega⟩, by show OT t h' (hz h0 + (n + 1)); rw [← e1]; exact a3⟩
  · exact q4 q hq
/-- a thing and the link to it -/
theorem Alc.ob {α : Type} {t kd : Nat} {f : Nat → PH → Option (Unit × PH)} (k : Nat) (F : InS t kd f) (fr : ∀ q ∈ lk, q.1 ≠ 0 ∨ q.2.1 ≠ k) (p : Alc h0 K n lk ar os h) : ∃ h', (∀ c : PH → Option α, (bd (hz h) fun a1 => bd (nwh h kd 0) fun h2 => cl (f a1 h2) fun _ h4 => ck (hK h4 (hz h0) = K) <| bd (sR h4 (hz h0) k (some a1)) fun h6 => c h6) = c h') ∧ Alc h0 K (n + sz t) ((0, k, n + 1) :: lk) ar ((t, n + 1) :: os) h' := by
  obtain ⟨h1, a1, a2, a3, -⟩ := p.mk F
  have p3 := Alc.ln (b := 0) (k := k) (i := n + 1) (Nat.zero_le _) fr (fun q hq => Or.inl (a2.2.2.2.1 q hq).1.1) a2
  refine ⟨_, fun c => ?_, p3⟩
  rw [bd_e, bd_e, a1, cl_s, ck_p a2.1.2.1, bd_e, ← a3, Nat.add_zero]
/-- a thing and the link to it from an array -/
theorem Alc.el {α : Type} {t kd : Nat} {f : Nat → PH → Option (Unit × PH)} (sl b i kA len : Nat) (F : InS t kd f) (hkd : ∀ h a, OT t h a → hK h a = kd) (h1 : (0, sl, b) ∈ lk) (h2 : (b, kA, len) ∈ ar) (hi : i < len) (fr : ∀ q ∈ lk, q.1 ≠ b ∨ q.2.1 ≠ i) (no : ∀ q ∈ os, b < q.2 ∨ q.2 + sz q.1 ≤ b) (p : Alc h0 K n lk ar os h) : ∃ h', (∀ c : PH → Option α, (ck (hK h (hz h0) = K) <| rq (hR h (hz h0) sl) fun a0 => bd (hz h) fun a1 => bd (nwh h kd 0) fun h2 => cl (f a1 h2) fun _ h4 => ck (hK h4 a0 = kA) <| ck (hK h4 a1 = kd) <| ck (i < hN h4 a0) <| bd (sR h4 a0 i (some a1)) fun h6 => c h6) = c h') ∧ Alc h0 K (n + sz t) ((b, i, n + 1) :: lk) ar ((t, n + 1) :: os) h' := by
  obtain ⟨g, a1, a2, a3, a4⟩ := p.mk F
  have l := p.2.1 _ h1
  have r := a2.2.2.1 _ h2
  have hb := (p.2.2.1 _ h2).1.2
  have p3 := Alc.ln (b := b) (k := i) (i := n + 1) (Nat.le_trans hb (Nat.le_add_right _ _)) fr (fun q hq => by
    rcases List.mem_cons.mp hq with rfl | hq
    · exact Or.inl (Nat.lt_succ_of_le hb)
    · exact no q hq) a2
  refine ⟨_, fun c => ?_, p3⟩
  have l : hR h (hz h0) sl = some (hz h0 + b) := l
  rw [ck_p p.1.2.1, l, rq_s, bd_e, bd_e, a1, cl_s, ck_p r.2.1, ck_p (hkd _ _ a4), ck_p (by rw [r.2.2.1]; exact hi), bd_e, ← a3]
end ALC
