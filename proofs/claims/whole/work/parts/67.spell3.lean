/-! The duty of spell, the reference's side: all ways. -/
def sp2 (A : AV) (S : AS) (f : Nat) (w : Int32) (u : Nat → Nat) : Nat := if w = -2 then 0 else fwL A (sPass A (lyS A S u 4)) f w (ws (noF A (sPass A (lyS A S u 4)) f) (al A (sPass A (lyS A S u 4))) 4 0 u5) 9
def spS (A : AV) (S : AS) (f : Nat) (w1 w2 : Int32) (st : Nat × (Nat → Nat)) (u : Nat → Nat) : Nat × (Nat → Nat) := if bn u < st.1 ∧ sbs A S u f = w1 ∧ sp2 A S f w2 u ≠ 9 ∧ bn u + sp2 A S f w2 u < st.1 then (bn u + sp2 A S f w2 u, u) else st
def spL (A : AV) (S : AS) (f : Nat) (w1 w2 : Int32) : List (Nat → Nat) → Nat × (Nat → Nat) → Nat × (Nat → Nat)
  | [], st => st
  | u :: us, st => spL A S f w1 w2 us (spS A S f w1 w2 st u)
def spP (y z : Nat) : Prop := inP y z ∨ (y + 42 ≤ z ∧ z ≤ y + 44)
theorem fwL_c {A : AV} {S : AS} {f : Nat} {want : Int32} : ∀ l b, (b = 9 ∨ b ≤ 4) → (fwL A S f want l b = 9 ∨ fwL A S f want l b ≤ 4)
  | [], _, h => h
  | u :: us, b, h => by
    refine fwL_c us _ ?_
    have := bn_le u
    unfold fw1
    split
    · exact Or.inr this
    · exact h
theorem sp2_c (A : AV) (S : AS) (f : Nat) (w : Int32) (u : Nat → Nat) : sp2 A S f w u = 9 ∨ sp2 A S f w u ≤ 4 := by
  unfold sp2
  split
  · exact Or.inr (Nat.zero_le _)
  · exact fwL_c _ _ (Or.inl rfl)
theorem spS_le {A : AV} {S : AS} {f : Nat} {w1 w2 : Int32} {st : Nat × (Nat → Nat)} {u : Nat → Nat} (h : st.1 ≤ 9) : (spS A S f w1 w2 st u).1 ≤ 9 := by
  unfold spS
  split
  · rename_i q
    show bn u + sp2 A S f w2 u ≤ 9
    omega
  · exact h
theorem RS.c32 {r r' : Nat → Int32} {S : AS} (e : ∀ k, k < 32 → r' (0 + k) = r (0 + k)) (p : RS r 0 S) : RS r' 0 S := by
  obtain ⟨p1, p2, p3, p4, p5⟩ := p
  have e' : ∀ k, k < 32 → r' k = r k := fun k hk => by
    have := e k hk
    rw [Nat.zero_add] at this
    exact this
  refine ⟨by rw [e' 0 (by decide)]; exact p1, fun k hk => ?_, fun k hk => ?_, fun k hk => ?_, fun k hk => ?_⟩
  · rw [e' _ (by omega)]; exact p2 k hk
  · rw [e' _ (by omega)]; exact p3 k hk
  · rw [e' _ (by omega)]; exact p4 k hk
  · rw [e' _ (by omega)]; exact p5 k hk
section SP3
variable {N y J : Nat} {A : AV} {S : AS}
theorem bI_9 {b : Nat} (hb : b ≤ 9) : bI b < 0 ↔ b = 9 := by
  unfold bI
  by_cases e : b = 9
  · rw [if_pos e]
    exact ⟨fun _ => e, fun _ => by decide⟩
  · rw [if_neg e]
    exact ⟨fun z => absurd z (nI_pos (by omega)), fun z => absurd z e⟩
theorem m_229 (hN2 : 10 ≤ N) {l1 l2 l3 l4 l5 : Int32} {b t s : Nat} (hb : b ≤ 9) (ht : t ≤ 4) (hs : s = 9 ∨ s ≤ 4) {h : PH} (m : MD h y) : ∃ g, (∀ K, f_X11_spell_229 N K y l1 l2 l3 l4 l5 (bI b) (nI t) (bI s) h = f_X11_spell_285 N K y l1 l2 l3 l4 l5 (bI (if s ≠ 9 ∧ t + s < b then t + s else b)) g) ∧ Ex (fun z => z = y + 44) h g ∧ ((s ≠ 9 ∧ t + s < b) → ∀ j, j < 4 → hI g (y + 44) j = hI h (y + 42) j) ∧ (¬ (s ≠ 9 ∧ t + s < b) → g = h) := by
  have un : ∀ K, f_X11_spell_229 N K y l1 l2 l3 l4 l5 (bI b) (nI t) (bI s) h = if s ≠ 9 ∧ t + s < b then f_X11_spell_249 N K y l1 l2 l3 l4 l5 (nI t) (bI s) h else f_X11_spell_285 N K y l1 l2 l3 l4 l5 (bI b) h := fun K => by
    unfold f_X11_spell_229
    by_cases e : s = 9
    · rw [if_pos ((bI_9 (by omega)).mpr e), if_neg (fun z => z.1 e)]
    · have s4 := hs.resolve_left e
      have es : bI s = nI s := by unfold bI; rw [if_neg e]
      rw [if_neg (fun z => e ((bI_9 (by omega)).mp z)), es, nI_add]
      by_cases e9 : b = 9
      · rw [if_pos ((bI_9 hb).mpr e9), if_pos (show s ≠ 9 ∧ t + s < b by omega)]
      · have eb : bI b = nI b := by unfold bI; rw [if_neg e9]
        rw [if_neg (fun z => e9 ((bI_9 hb).mp z)), ite_i (show bI b ≤ nI (t + s) ↔ b ≤ t + s by rw [eb]; exact nI_leI (by omega) (by omega))]
        by_cases c : b ≤ t + s
        · rw [if_pos c, if_neg (show ¬ (s ≠ 9 ∧ t + s < b) by omega)]
        · rw [if_neg c, if_pos (show s ≠ 9 ∧ t + s < b by omega)]
  by_cases d : s ≠ 9 ∧ t + s < b
  · have s4 := hs.resolve_left d.1
    have es : bI s = nI s := by unfold bI; rw [if_neg d.1]
    have ebt : bI (t + s) = nI (t + s) := by unfold bI; rw [if_neg (by omega)]
    obtain ⟨g, r1, r2, r3⟩ := m_259 (N := N) (y := y) (l1 := l1) (l2 := l2) (l3 := l3) (l4 := l4) (l5 := l5) (l6 := nI (t + s)) N 0 h (by omega) (by omega) m (fun j hj => absurd hj (Nat.not_lt_zero j))
    refine ⟨g, fun K => ?_, r2, fun _ => r3, fun z => absurd d z⟩
    rw [un K, if_pos d, if_pos d, ebt, es]
    unfold f_X11_spell_249
    rw [nI_add, bd_e]
    exact r1 K
  · exact ⟨h, fun K => by rw [un K, if_neg d, if_neg d], Ex.rf, fun z => absurd z d, fun _ => rfl⟩
/-- the way kept as the best -/
def BW (h : PH) (y : Nat) (st : Nat × (Nat → Nat)) : Prop := st.1 ≠ 9 → ∀ j, j < 4 → hI h (y + 44) j = nI (st.2 j)
set_option maxHeartbeats 1000000 in
theorem m_spb (hN2 : 5000 ≤ N) (hT : WS A J S) (hJ : J + 1 < 2 ^ 30) {X f : Nat} {w1 w2 who : Int32} {st : Nat × (Nat → Nat)} (hX : X < 16) (hf : f < 1000) (hb : st.1 ≤ 9) (hW : WV A) (u : Nat → Nat) (h : PH) (oku : okU A u) (lu : LU A S u) (p : MA N h y A) (rS : RS (hI h (y + 37)) 0 S) (rK : RS (hI h (y + 45)) 0 S) (hw : WY h y u) (bw : BW h y st) : ∃ g, (∀ n, f_X11_spell_100 N (n + 1) y (nI f) w1 w2 who (nI X) (bI st.1) 1 h = f_X11_spell_100 N n y (nI f) w1 w2 who (nI X) (bI (spS A S f w1 w2 st u).1) (yb (nf X (al A S) 4 u).1) g) ∧ Ex (spP y) h g ∧ WY g y (nf X (al A S) 4 u).2 ∧ MA N g y A ∧ RS (hI g (y + 37)) 0 S ∧ RS (hI g (y + 45)) 0 S ∧ BW g y (spS A S f w1 w2 st u) ∧ ∀ k, k ≠ 55 → k ≠ 56 → hI g y k = hI h y k := by
  have m := p.1
  have u5' := okU5 hW oku
  have bl := bn_le u
  have un1 : ∀ n, f_X11_spell_100 N (n + 1) y (nI f) w1 w2 who (nI X) (bI st.1) 1 h = if bn u < st.1 then f_X11_spell_123 N (f_X11_spell_100 N n) y (nI f) w1 w2 who (nI X) (bI st.1) (nI (bn u)) h else f_X11_spell_285 N (f_X11_spell_100 N n) y (nI f) w1 w2 who (nI X) (bI st.1) h := fun n => by
    show f_X11_spell_100_b N (f_X11_spell_100 N n) y _ _ _ _ _ _ _ h = _
    unfold f_X11_spell_100_b
    rw [if_neg one0, ck_p m.1, m_burnt (by omega) m hw u5', cl_s]
    by_cases e : st.1 = 9
    · rw [if_pos ((bI_9 hb).mpr e), if_pos (by omega)]
    · have e9 : bI st.1 = nI st.1 := by unfold bI; rw [if_neg e]
      rw [if_neg (fun z => e ((bI_9 hb).mp z)), ite_i (show bI st.1 ≤ nI (bn u) ↔ st.1 ≤ bn u by rw [e9]; exact nI_leI (by omega) (by omega))]
      by_cases c : st.1 ≤ bn u
      · rw [if_pos c, if_neg (by omega)]
      · rw [if_neg c, if_pos (by omega)]
  have nxt : ∀ (st' : Nat × (Nat → Nat)) (g2 : PH), Ex (spP y) h g2 → WY g2 y u → MA N g2 y A → RS (hI g2 (y + 37)) 0 S → RS (hI g2 (y + 45)) 0 S → BW g2 y st' → (∀ k, k ≠ 55 → k ≠ 56 → hI g2 y k = hI h y k) → (∀ n, f_X11_spell_100 N (n + 1) y (nI f) w1 w2 who (nI X) (bI st.1) 1 h = f_X11_spell_285 N (f_X11_spell_100 N n) y (nI f) w1 w2 who (nI X) (bI st'.1) g2) → ∃ g, (∀ n, f_X11_spell_100 N (n + 1) y (nI f) w1 w2 who (nI X) (bI st.1) 1 h = f_X11_spell_100 N n y (nI f) w1 w2 who (nI X) (bI st'.1) (yb (nf X (al A S) 4 u).1) g) ∧ Ex (spP y) h g ∧ WY g y (nf X (al A S) 4 u).2 ∧ MA N g y A ∧ RS (hI g (y + 37)) 0 S ∧ RS (hI g (y + 45)) 0 S ∧ BW g y st' ∧ ∀ k, k ≠ 55 → k ≠ 56 → hI g y k = hI h y k := fun st' g2 e2 w2' p2 rS2 rK2 bw2 y2 hs => by
    obtain ⟨g3, s1, s2, s3⟩ := m_nextWay (N := N) (by omega) hW hT hX p2.1 p2.2.1 rS2 w2' u5'
    refine ⟨g3, fun n => ?_, e2.trans (Ex.mono (Q := spP y) s2 (fun z hz => Or.inr (by omega))), s3, p2.ex s2 (fun z z1 z2 z3 => by omega), rS2.ex s2 (by omega), rK2.ex s2 (by omega), fun z j hj => by rw [s2.2.2.2 _ (by omega)]; exact bw2 z j hj, fun k k1 k2 => by rw [s2.2.2.2 _ (by omega)]; exact y2 k k1 k2⟩
    rw [hs n]
    unfold f_X11_spell_285
    rw [ck_p p2.1.1, s1, cl_s]
  by_cases c : bn u < st.1
  rotate_left
  · have e : spS A S f w1 w2 st u = st := by unfold spS; rw [if_neg (fun z => c z.1)]
    rw [e]
    exact nxt st h Ex.rf hw p rS rK bw (fun _ _ _ => rfl) (fun n => by rw [un1 n, if_neg c])
  obtain ⟨g1, r1, r2⟩ := m_signBy (N := N) (by omega) hT (show J < 2 ^ 30 by omega) oku (f := f) hf p rS hw
  have p1 := p.ex r2 (fun z z1 z2 z3 => by unfold inM at z3; omega)
  have rS1 := rS.ex r2 (by unfold inM; omega)
  have rK1 : RS (hI g1 (y + 45)) 0 S := rK.ex r2 (by unfold inM; omega)
  have wy1 : WY g1 y u := hw.ex r2 (by unfold inM; omega)
  have E1 : Ex (spP y) h g1 := Ex.mono (Q := spP y) r2 (fun z hz => Or.inl (Or.inl hz))
  have b1 : BW g1 y st := fun z j hj => by rw [r2.2.2.2 _ (by unfold inM; omega)]; exact bw z j hj
  have y1 : hI g1 y = hI h y := r2.2.2.2 y (by unfold inM; omega)
  by_cases q : sbs A S u f = w1
  rotate_left
  · have e : spS A S f w1 w2 st u = st := by unfold spS; rw [if_neg (fun z => q z.2.1)]
    rw [e]
    refine nxt st g1 E1 wy1 p1 rS1 rK1 b1 (fun k _ _ => by rw [y1]) (fun n => ?_)
    rw [un1 n, if_pos c]
    unfold f_X11_spell_123
    rw [ck_p m.1, r1, cl_s, if_neg q]
  -- what stands behind the second sign
  have fin : ∀ (s : Nat) (g7 : PH), s = sp2 A S f w2 u → Ex (spP y) h g7 → WY g7 y u → MA N g7 y A → RS (hI g7 (y + 37)) 0 S → RS (hI g7 (y + 45)) 0 S → BW g7 y st → (∀ k, k ≠ 55 → k ≠ 56 → hI g7 y k = hI h y k) → (∀ n, f_X11_spell_100 N (n + 1) y (nI f) w1 w2 who (nI X) (bI st.1) 1 h = f_X11_spell_229 N (f_X11_spell_100 N n) y (nI f) w1 w2 who (nI X) (bI st.1) (nI (bn u)) (bI s) g7) → ∃ g, (∀ n, f_X11_spell_100 N (n + 1) y (nI f) w1 w2 who (nI X) (bI st.1) 1 h = f_X11_spell_100 N n y (nI f) w1 w2 who (nI X) (bI (spS A S f w1 w2 st u).1) (yb (nf X (al A S) 4 u).1) g) ∧ Ex (spP y) h g ∧ WY g y (nf X (al A S) 4 u).2 ∧ MA N g y A ∧ RS (hI g (y + 37)) 0 S ∧ RS (hI g (y + 45)) 0 S ∧ BW g y (spS A S f w1 w2 st u) ∧ ∀ k, k ≠ 55 → k ≠ 56 → hI g y k = hI h y k := fun s g7 es e7 w7 p7 rS7 rK7 b7 y7 hs => by
    have sc := sp2_c A S f w2 u
    rw [← es] at sc
    by_cases d : s ≠ 9 ∧ bn u + s < st.1
    · have e : spS A S f w1 w2 st u = (bn u + s, u) := by unfold spS; rw [if_pos ⟨c, q, by rw [← es]; exact d.1, by rw [← es]; exact d.2⟩, es]
      obtain ⟨g8, t1, t2, t3, -⟩ := m_229 (N := N) (y := y) (by omega) (l1 := nI f) (l2 := w1) (l3 := w2) (l4 := who) (l5 := nI X) hb bl sc p7.1
      have t3 := t3 d
      rw [if_pos d] at t1
      rw [e]
      refine nxt (bn u + s, u) g8 (e7.trans (Ex.mono (Q := spP y) t2 (fun z hz => Or.inr (by omega)))) (w7.ex t2 (by omega)) (p7.ex t2 (fun z z1 z2 z3 => by omega)) (rS7.ex t2 (by omega)) (rK7.ex t2 (by omega)) (fun _ j hj => by rw [t3 j hj]; exact w7 j hj) (fun k k1 k2 => by rw [t2.2.2.2 _ (by omega)]; exact y7 k k1 k2) (fun n => by rw [hs n, t1])
    · have e : spS A S f w1 w2 st u = st := by unfold spS; rw [if_neg (fun z => d ⟨by rw [es]; exact z.2.2.1, by rw [es]; exact z.2.2.2⟩)]
      rw [e]
      refine nxt st g7 e7 w7 p7 rS7 rK7 b7 y7 (fun n => ?_)
      obtain ⟨g8, t1, t2, t3, t4⟩ := m_229 (N := N) (y := y) (by omega) (l1 := nI f) (l2 := w1) (l3 := w2) (l4 := who) (l5 := nI X) hb bl sc p7.1
      rw [hs n, t1, t4 d, if_neg d]
  obtain ⟨ga, a1, a2, a3⟩ := m_135 (N := N) (y := y) (l1 := nI f) (l2 := w1) (l3 := w2) (l4 := who) (l5 := nI X) (l6 := bI st.1) (l8 := nI (bn u)) N 0 g1 (by omega) (by omega) p1.1 (fun j hj => absurd hj (Nat.not_lt_zero j))
  have pa := p1.ex a2 (fun z z1 z2 z3 => by omega)
  have rSa := rS1.ex a2 (by omega)
  have rKa : RS (hI ga (y + 45)) 0 S := rK1.ex a2 (by omega)
  have wa : WY ga y u := wy1.ex a2 (by omega)
  have Ea : Ex (spP y) h ga := E1.trans (Ex.mono (Q := spP y) a2 (fun z hz => Or.inr (by omega)))
  have ba : BW ga y st := fun z j hj => by rw [a2.2.2.2 _ (by omega)]; exact b1 z j hj
  have ya : hI ga y = hI h y := (a2.2.2.2 y (by omega)).trans y1
  have ka : ∀ j, j < 4 → hI ga (y + 43) j = nI (u j) := fun j hj => by rw [a3 j hj]; exact wy1 j hj
  have head : ∀ n, f_X11_spell_100 N (n + 1) y (nI f) w1 w2 who (nI X) (bI st.1) 1 h = f_X11_spell_135 N (f_X11_spell_100 N n) N y (nI f) w1 w2 who (nI X) (bI st.1) (nI (bn u)) 0 g1 := fun n => by
    rw [un1 n, if_pos c]
    unfold f_X11_spell_123
    rw [ck_p m.1, r1, cl_s, if_pos q]
  by_cases e2 : w2 = -2
  · have es : sp2 A S f w2 u = 0 := by unfold sp2; rw [if_pos e2]
    refine fin 0 ga es.symm Ea wa pa rSa rKa ba (fun k _ _ => by rw [ya]) (fun n => ?_)
    refine (head n).trans ((a1 _).trans ?_)
    rw [if_pos e2]
    rfl
  have es : sp2 A S f w2 u = fwL A (sPass A (lyS A S u 4)) f w2 (ws (noF A (sPass A (lyS A S u 4)) f) (al A (sPass A (lyS A S u 4))) 4 0 u5) 9 := by unfold sp2; rw [if_neg e2]
  obtain ⟨gb', c1, c2, c3⟩ := m_laysWay (N := N) (by omega) hT lu pa rSa wa
  have pb := pa.ex c2 (fun z z1 z2 z3 => by omega)
  have tb := lyS_W hW lu hT 4 (by omega)
  obtain ⟨gc, d1, d2, d3, -, -, d4⟩ := m_passes (N := N) (by omega) pb c3 tb (show J < 2 ^ 30 by omega)
  have pc := pb.ex d2 (fun z z1 z2 z3 => by unfold inP inM at z3; omega)
  obtain ⟨gd, f1, f2, f3, -⟩ := m_fewest (N := N) (want := w2) hN2 tb.pass hJ hf pc d3
  obtain ⟨ge, i1, i2, i3, -⟩ := m_copies (N := N) (h := gd) (a := y + 45) (c := y + 37) (b := 0) (e := 0) (na := 32) (nc := 32) (by omega) (by omega) (by omega) (by omega) (by omega) (by omega) ⟨mK_spelt f3.1, mN_spelt f3.1⟩ ⟨mK_s f3.1, mN_s f3.1⟩
  have pe := f3.ex i2 (fun z z1 z2 z3 => by omega)
  have Ee : Ex (spP y) ga ge := (((Ex.mono (Q := spP y) c2 (fun z hz => Or.inl (Or.inr (Or.inl hz)))).trans (Ex.mono (Q := spP y) d2 (fun z hz => Or.inl hz))).trans (Ex.mono (Q := spP y) f2 (fun z hz => by unfold rsP at hz; unfold spP; rcases hz with hz | hz; exact Or.inr (by omega); exact Or.inl (Or.inl hz)))).trans (Ex.mono (Q := spP y) i2 (fun z hz => Or.inl (Or.inr (Or.inl hz))))
  have rKd : RS (hI gd (y + 45)) 0 S := ((rKa.ex c2 (by omega)).ex d2 (by unfold inP inM; omega)).ex f2 (by unfold rsP inM; omega)
  have rKe : RS (hI ge (y + 45)) 0 S := rKd.ex i2 (by omega)
  have rSe : RS (hI ge (y + 37)) 0 S := rKd.c32 i3
  have k43 : hI ge (y + 43) = hI ga (y + 43) := by rw [i2.2.2.2 _ (by omega), f2.2.2.2 _ (by unfold rsP inM; omega), d2.2.2.2 _ (by unfold inP inM; omega), c2.2.2.2 _ (by omega)]
  have k44 : hI ge (y + 44) = hI ga (y + 44) := by rw [i2.2.2.2 _ (by omega), f2.2.2.2 _ (by unfold rsP inM; omega), d2.2.2.2 _ (by unfold inP inM; omega), c2.2.2.2 _ (by omega)]
  have ye : ∀ k, k ≠ 55 → k ≠ 56 → hI ge y k = hI h y k := fun k k1 k2 => by rw [i2.2.2.2 y (by omega), f2.2.2.2 y (by unfold rsP inM; omega), d4 k k1 k2, c2.2.2.2 y (by omega), ya]
  obtain ⟨gf, j1, j2, j3⟩ := m_203 (N := N) (y := y) (l1 := nI f) (l2 := w1) (l3 := w2) (l4 := who) (l5 := nI X) (l6 := bI st.1) (l8 := nI (bn u)) (l9 := bI (sp2 A S f w2 u)) N 0 ge (by omega) (by omega) pe.1 (fun j hj => absurd hj (Nat.not_lt_zero j))
  refine fin (sp2 A S f w2 u) gf rfl (Ea.trans (Ee.trans (Ex.mono (Q := spP y) j2 (fun z hz => Or.inr (by omega))))) (fun j hj => by rw [j3 j hj, k43]; exact ka j hj) (pe.ex j2 (fun z z1 z2 z3 => by omega)) (rSe.ex j2 (by omega)) (rKe.ex j2 (by omega)) (fun z j hj => by rw [j2.2.2.2 _ (by omega), k44]; exact ba z j hj) (fun k k1 k2 => by rw [j2.2.2.2 y (by omega)]; exact ye k k1 k2) (fun n => ?_)
  have i1 : f_X11_copies N (y + 45) 0 (y + 37) 0 gd = _ := i1
  refine (head n).trans ((a1 _).trans ?_)
  rw [if_neg e2, c1, cl_s, ck_p pb.1.1, d1, cl_s, ck_p pc.1.1, f1, cl_s, ck_p f3.1.1, mR_spelt f3.1, rq_s, mR_s f3.1, rq_s, i1, cl_s, ← es]
  exact j1 _
end SP3
