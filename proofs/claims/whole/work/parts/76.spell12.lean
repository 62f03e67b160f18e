/-! The duty of spell, the class's side: what a house may do in the second hour. -/
/-- place i is prepared for the choices of D -/
def PQ (A : AV) (S : AS) (V x i : Nat) (D : Nat → Prop) (sh : Nat) (h : PH) : Prop := (∀ c, D c → hI h (x + 31 + 7) (6 * i + ccO c) = nI (idP A S V i c) ∧ hI h (x + 31 + 8) (6 * i + ccO c) = nI (frP A S V i c) ∧ sh.testBit (idP A S V i c) = true ∧ ∀ g, (frP A S V i c).testBit g = true → sh.testBit (g + 1) = true) ∧ hI h (x + 31 + 4) i = nI sh ∧ sh < 2 ^ 11 ∧ ∀ s, sh.testBit s = true → DK A S V x i s h
/-- other places stay as they are, and first places of rows -/
def Pfr (x i : Nat) (h h' : PH) : Prop := (∀ k, (k < 6 * i ∨ 6 * i + 6 ≤ k) → hI h' (x + 31 + 7) k = hI h (x + 31 + 7) k ∧ hI h' (x + 31 + 8) k = hI h (x + 31 + 8) k) ∧ (∀ k, k ≠ i → hI h' (x + 31 + 4) k = hI h (x + 31 + 4) k) ∧ ∀ k, (k < 11 * i ∨ 11 * i + 11 ≤ k ∨ k = 11 * i) → hI h' (x + 31 + 5) k = hI h (x + 31 + 5) k ∧ hI h' (x + 31 + 6) k = hI h (x + 31 + 6) k
def pbP (x v z : Nat) : Prop := (x + 35 ≤ z ∧ z ≤ x + 39) ∨ z = v + 13 ∨ z = v + 16 ∨ z = v + 17
section SPB1
variable {N x v J i c g : Nat} {A : AV} {S : AS} {V : Nat}
theorem Pfr.rf {h : PH} : Pfr x i h h := ⟨fun _ _ => ⟨rfl, rfl⟩, fun _ _ => rfl, fun _ _ => ⟨rfl, rfl⟩⟩
theorem Pfr.trans {h h1 h2 : PH} (p : Pfr x i h h1) (q : Pfr x i h1 h2) : Pfr x i h h2 := ⟨fun k hk => ⟨(q.1 k hk).1.trans (p.1 k hk).1, (q.1 k hk).2.trans (p.1 k hk).2⟩, fun k hk => (q.2.1 k hk).trans (p.2.1 k hk), fun k hk => ⟨(q.2.2 k hk).1.trans (p.2.2 k hk).1, (q.2.2 k hk).2.trans (p.2.2 k hk).2⟩⟩
theorem Pfr.z {h h' : PH} (hi : i < 4) (p : Pfr x i h h') (q : Z11 h x) : Z11 h' x := fun k hk => by
  have := p.2.2 (11 * k) (by omega)
  have t := q k hk
  exact ⟨this.1.trans t.1, this.2.trans t.2⟩
theorem PQ.fr {h h' : PH} {D : Nat → Prop} {sh a : Nat} (ha : a ≠ i) (hD : ∀ c, D c → c ≤ 5) (p : Pfr x i h h') (q : PQ A S V x a D sh h) : PQ A S V x a D sh h' := by
  obtain ⟨q1, q2, q3, q4⟩ := q
  refine ⟨fun c hc => ?_, by rw [p.2.1 a ha]; exact q2, q3, fun s hs => ?_⟩
  · have l := ccO_lt (hD c hc)
    have e := p.1 (6 * a + ccO c) (by omega)
    rw [e.1, e.2]
    exact q1 c hc
  · have l := tb_lt q3 hs
    have e := p.2.2 (11 * a + s) (by omega)
    unfold DK
    rw [e.1, e.2]
    exact q4 s hs
/-- behind both roads: what is shown is noted -/
theorem c_pbend (hv : x + 43 ≤ v) (hW : WV A) (hT : WS A J S) (hV : V < 16) (hi : i < 4) (hc : c ≤ 5) (ok : okc A S V i c) {D : Nat → Prop} {sh : Nat} {h0 h : PH} (sb : SB A S x v h) (q : PQ A S V x i D sh h0) (hZ : Z11 h0 x) (E : Ex (pbP x v) h0 h) (e7 : hI h (x + 31 + 7) = va_up (hI h0 (x + 31 + 7)) (6 * i + ccO c) (nI (idP A S V i c))) (e8 : hI h (x + 31 + 8) (6 * i + ccO c) = nI (frP A S V i c)) (e8' : ∀ k, k ≠ 6 * i + ccO c → hI h (x + 31 + 8) k = hI h0 (x + 31 + 8) k) (e4 : hI h (x + 31 + 4) = hI h0 (x + 31 + 4)) (dk : ∀ s, (sh.testBit s = true ∨ s = idP A S V i c ∨ (1 ≤ s ∧ (frP A S V i c).testBit (s - 1) = true)) → DK A S V x i s h) (e5 : ∀ k, (k < 11 * i ∨ 11 * i + 11 ≤ k ∨ k = 11 * i) → hI h (x + 31 + 5) k = hI h0 (x + 31 + 5) k ∧ hI h (x + 31 + 6) k = hI h0 (x + 31 + 6) k) : ∃ h' sh', f_X3_prepareBehind_220 N (x + 31) (nI i) (nI (6 * i + ccO c)) h = some ((), h') ∧ Ex (pbP x v) h0 h' ∧ SB A S x v h' ∧ PQ A S V x i (fun d => D d ∨ d = c) sh' h' ∧ Pfr x i h0 h' := by
  obtain ⟨q1, q2, q3, q4⟩ := q
  have il := idP_lt hW hT hV hi ok
  have fl := frP_lt (A := A) (S := S) (V := V) (i := i) (c := c) hW
  have cl := ccO_lt hc
  have r := c_220 (N := N) sb.1 hi (show 6 * i + ccO c < 24 by omega) (show hI h (x + 31 + 7) (6 * i + ccO c) = _ by rw [e7, va_eq]) e8 (show hI h (x + 31 + 4) i = _ by rw [e4]; exact q2) il fl
  have E2 : Ex (fun z => z = x + 31 + 4) h (sI h (x + 31 + 4) i (nI (sh ||| (2 ^ idP A S V i c ||| 2 * frP A S V i c)))) := Ex.sI rfl
  have f4 : hI (sI h (x + 31 + 4) i (nI (sh ||| (2 ^ idP A S V i c ||| 2 * frP A S V i c)))) (x + 31 + 4) = va_up (hI h (x + 31 + 4)) i (nI (sh ||| (2 ^ idP A S V i c ||| 2 * frP A S V i c))) := hI_sI_eq
  have sb2 := sb.own hv E2 (fun z hz => by omega)
  rw [r]
  generalize sI h (x + 31 + 4) i (nI (sh ||| (2 ^ idP A S V i c ||| 2 * frP A S V i c))) = h' at E2 f4 sb2
  have g5 : hI h' (x + 31 + 5) = hI h (x + 31 + 5) := E2.2.2.2 _ (by omega)
  have g6 : hI h' (x + 31 + 6) = hI h (x + 31 + 6) := E2.2.2.2 _ (by omega)
  have g7 : hI h' (x + 31 + 7) = hI h (x + 31 + 7) := E2.2.2.2 _ (by omega)
  have g8 : hI h' (x + 31 + 8) = hI h (x + 31 + 8) := E2.2.2.2 _ (by omega)
  have bits : ∀ s, (sh ||| (2 ^ idP A S V i c ||| 2 * frP A S V i c)).testBit s = true ↔ (sh.testBit s = true ∨ s = idP A S V i c ∨ (1 ≤ s ∧ (frP A S V i c).testBit (s - 1) = true)) := fun s => by
    rw [Nat.testBit_or, Nat.testBit_or, tb_2, Bool.or_eq_true, Bool.or_eq_true, Bool.and_eq_true, decide_eq_true_eq, Nat.testBit_two_pow, decide_eq_true_eq]
    constructor
    · rintro (a | a | a)
      · exact Or.inl a
      · exact Or.inr (Or.inl a.symm)
      · exact Or.inr (Or.inr a)
    · rintro (a | a | a)
      · exact Or.inl a
      · exact Or.inr (Or.inl a.symm)
      · exact Or.inr (Or.inr a)
  have lt : (sh ||| (2 ^ idP A S V i c ||| 2 * frP A S V i c)) < 2 ^ 11 := or_lt q3 (or_lt (Nat.pow_lt_pow_right (by decide) il) (by
    have e5' : (2 : Nat) ^ 5 = 32 := rfl
    have e11 : (2 : Nat) ^ 11 = 2048 := rfl
    omega))
  refine ⟨h', sh ||| (2 ^ idP A S V i c ||| 2 * frP A S V i c), rfl, E.trans (E2.mono (fun z hz => by unfold pbP; omega)), sb2, ⟨fun d hd => ?_, by rw [f4, va_eq], lt, fun s hs => ?_⟩, fun k hk => ?_, fun k hk => ?_, fun k hk => ?_⟩
  · rw [g7, g8, e7]
    by_cases z : d = c
    · rw [z, va_eq, e8]
      exact ⟨rfl, rfl, (bits _).mpr (Or.inr (Or.inl rfl)), fun g hg => (bits _).mpr (Or.inr (Or.inr ⟨by omega, by rw [Nat.add_sub_cancel]; exact hg⟩))⟩
    · have nz : ¬ 6 * i + ccO d = 6 * i + ccO c := fun q => z (ccO_inj (by omega))
      obtain ⟨t1, t2, t3, t4⟩ := q1 d (hd.resolve_right z)
      rw [va_ne nz, e8' _ nz]
      exact ⟨t1, t2, (bits _).mpr (Or.inl t3), fun g hg => (bits _).mpr (Or.inl (t4 g hg))⟩
  · have := dk s ((bits s).mp hs)
    unfold DK at this ⊢
    rw [g5, g6]
    exact this
  · rw [g7, g8, e7, va_ne (by omega), e8' k (by omega)]
    exact ⟨rfl, rfl⟩
  · rw [f4, va_ne hk, e4]
  · rw [g5, g6]
    exact e5 k hk
theorem c_pb76 (hB : 2000 ≤ N) (hv : x + 43 ≤ v) (hT : WS A J S) (hH : tH S < 2 ^ 30) (hV : V < 16) (hi : i < 4) (hc : c ≤ 5) (ok : okc A S V i c) {s0 l3 l5 : Int32} (hn : hP V i = 4 → s0 = 0 ∧ l3 = -1 ∧ c = 5) (hy : hP V i < 4 → l3 = nI (hP V i) ∧ s0 = nI (tl2 A S (hP V i) c) ∧ (0 < tl2 A S (hP V i) c → l5 = nI (ol2 S (hP V i) c))) {D : Nat → Prop} {sh : Nat} {h : PH} (sb : SB A S x v h) (q : PQ A S V x i D sh h) (hZ : Z11 h x) (hN : 100 ≤ N) : ∃ h' sh', f_X3_prepareBehind_76 N s0 (x + 31) (nI i) (cm c) l3 l5 h = some ((), h') ∧ Ex (pbP x v) h h' ∧ SB A S x v h' ∧ PQ A S V x i (fun d => D d ∨ d = c) sh' h' ∧ Pfr x i h h' := by
  obtain ⟨sp, ⟨r9, r10⟩, pv, hS, hC⟩ := id sb
  have hW := pv.2.2.1
  have h5 := hW.1.1
  have cl := ccO_lt hc
  have n0 : nI 0 = (0 : Int32) := by decide
  have a24 : inb (nI (6 * i + ccO c)) 24 := nI_ix (by omega) (by decide)
  have x24 : ix (nI (6 * i + ccO c)) = 6 * i + ccO c := ix_nI (by omega)
  have oc := okc_lt hW ok
  have hZi := hZ i hi
  have E1 : Ex (fun z => z = x + 31 + 7 ∨ z = x + 31 + 8) h (sI (sI h (x + 31 + 7) (6 * i + ccO c) 0) (x + 31 + 8) (6 * i + ccO c) 0) := (Ex.sI (P := fun z => z = x + 31 + 7 ∨ z = x + 31 + 8) (Or.inl rfl)).trans (Ex.sI (P := fun z => z = x + 31 + 7 ∨ z = x + 31 + 8) (Or.inr rfl))
  have f7 : hI (sI (sI h (x + 31 + 7) (6 * i + ccO c) 0) (x + 31 + 8) (6 * i + ccO c) 0) (x + 31 + 7) = va_up (hI h (x + 31 + 7)) (6 * i + ccO c) 0 := by rw [hI_sI_ne (by omega), hI_sI_eq]
  have f8 : hI (sI (sI h (x + 31 + 7) (6 * i + ccO c) 0) (x + 31 + 8) (6 * i + ccO c) 0) (x + 31 + 8) = va_up (hI h (x + 31 + 8)) (6 * i + ccO c) 0 := by rw [hI_sI_eq, hI_sI_ne (by omega)]
  have sba := sb.own hv E1 (fun z hz => by omega)
  unfold f_X3_prepareBehind_76
  rw [ix6, bd_e, ck_p sp.1, pR_idle sp, rq_s, ck_p (pK_idle sp), pN_idle sp, ck_p a24, x24, bd_e, ck_p (sp.sm (Sm.sI (h := h) (a := x + 31 + 7) (k := 6 * i + ccO c) (v := 0))).1, pR_fre (sp.sm (Sm.sI (h := h) (a := x + 31 + 7) (k := 6 * i + ccO c) (v := 0))), rq_s, ck_p (pK_fre (sp.sm (Sm.sI (h := h) (a := x + 31 + 7) (k := 6 * i + ccO c) (v := 0)))), pN_fre (sp.sm (Sm.sI (h := h) (a := x + 31 + 7) (k := 6 * i + ccO c) (v := 0))), ck_p a24, bd_e]
  generalize sI (sI h (x + 31 + 7) (6 * i + ccO c) 0) (x + 31 + 8) (6 * i + ccO c) 0 = ha at E1 f7 f8 sba ⊢
  have Ea : Ex (pbP x v) h ha := E1.mono (fun z hz => by unfold pbP; omega)
  have ga4 : hI ha (x + 31 + 4) = hI h (x + 31 + 4) := E1.2.2.2 _ (by omega)
  have ga5 : hI ha (x + 31 + 5) = hI h (x + 31 + 5) := E1.2.2.2 _ (by omega)
  have ga6 : hI ha (x + 31 + 6) = hI h (x + 31 + 6) := E1.2.2.2 _ (by omega)
  have qDK : ∀ s, sh.testBit s = true → DK A S V x i s ha := fun s hs => by
    have := q.2.2.2 s hs
    unfold DK at this ⊢
    rw [ga5, ga6]
    exact this
  have dk0 : DK A S V x i 0 ha := by
    unfold DK
    rw [ga5, ga6, show 11 * i + 0 = 11 * i from rfl, dkP_0, dkP_0, n0]
    exact hZi
  rcases hP_d V hV i hi with ⟨a, -⟩ | ⟨a, -, -, -⟩
  · obtain ⟨rfl, rfl, rfl⟩ := hn a
    have ei : idP A S V i 5 = 0 := if_pos a
    have ef : frP A S V i 5 = 0 := if_pos a
    rw [if_pos (by decide), show (0 : Int32) = nI 0 from n0.symm, cm_5, c_l141n hv sba _ N 0 (by omega) (by omega)]
    refine c_pbend hv hW hT hV hi hc ok sba q hZ Ea (by rw [f7, ei, n0]) (by rw [f8, va_eq, ef, n0]) (fun k hk => by rw [f8, va_ne hk]) ga4 (fun s hs => ?_) (fun k hk => by rw [ga5, ga6]; exact ⟨rfl, rfl⟩)
    rcases hs with hs | hs | ⟨-, hs⟩
    · exact qDK s hs
    · rw [hs, ei]; exact dk0
    · rw [ef, Nat.zero_testBit] at hs; cases hs
  · obtain ⟨rfl, rfl, hl5⟩ := hy a
    have tS' := hT.2.1 _ a
    have tl : tl2 A S (hP V i) c ≤ 9 := by
      unfold tl2
      by_cases e : c = 5
      · rw [if_pos e]; omega
      · have := hW.2.1 c (oc.2 e).1
        rw [if_neg e]; omega
    by_cases t : 0 < tl2 A S (hP V i) c
    · obtain rfl := hl5 t
      have ol : ol2 S (hP V i) c ≤ 4 := by
        unfold ol2
        by_cases e : c = 5
        · rw [if_pos e]; omega
        · have := oc.2 e
          rw [if_neg e]; omega
      have ei : idP A S V i c = 6 + ol2 S (hP V i) c := by
        unfold idP
        rw [if_neg (by omega), if_pos t]
      have ef : frP A S V i c = 0 := by
        unfold frP
        rw [if_neg (by omega), if_pos t]
      have E2 : Ex (fun z => z = x + 31 + 7) ha (sI ha (x + 31 + 7) (6 * i + ccO c) (nI (6 + ol2 S (hP V i) c))) := Ex.sI rfl
      have h7 : hI (sI ha (x + 31 + 7) (6 * i + ccO c) (nI (6 + ol2 S (hP V i) c))) (x + 31 + 7) = va_up (hI ha (x + 31 + 7)) (6 * i + ccO c) (nI (6 + ol2 S (hP V i) c)) := hI_sI_eq
      have sbb := sba.own hv E2 (fun z hz => by omega)
      have i6 : (6 : Int32) + nI (ol2 S (hP V i) c) = nI (6 + ol2 S (hP V i) c) := nI_add 6 _
      rw [if_neg (show ¬ nI (tl2 A S (hP V i) c) ≤ 0 from fun z => by rw [← n0, nI_leI (by omega) (by omega)] at z; omega), ck_p sba.1.1, pR_idle sba.1, rq_s, ck_p (pK_idle sba.1), pN_idle sba.1, ck_p a24, i6, bd_e]
      generalize sI ha (x + 31 + 7) (6 * i + ccO c) (nI (6 + ol2 S (hP V i) c)) = hb at E2 h7 sbb ⊢
      obtain ⟨hc', b1, b2, b3, b4, b5⟩ := c_kp (N := N) hB hv hH hi (s := 6 + ol2 S (hP V i) c) (F := ol2 S (hP V i) c + 1) (l := tl2 A S (hP V i) c) (by omega) (by omega) tl sbb
      rw [pk_m1] at b1
      rw [ck_p sbb.1.1, b1, cl_s]
      have g4 : hI hc' (x + 31 + 4) = hI h (x + 31 + 4) := by rw [b2.2.2.2 _ (by unfold kpP; omega), E2.2.2.2 _ (by omega), ga4]
      have g7 : hI hc' (x + 31 + 7) = hI hb (x + 31 + 7) := b2.2.2.2 _ (by unfold kpP; omega)
      have g8 : hI hc' (x + 31 + 8) = hI ha (x + 31 + 8) := by rw [b2.2.2.2 _ (by unfold kpP; omega), E2.2.2.2 _ (by omega)]
      have g5 : hI hb (x + 31 + 5) = hI h (x + 31 + 5) := by rw [E2.2.2.2 _ (by omega), ga5]
      have g6 : hI hb (x + 31 + 6) = hI h (x + 31 + 6) := by rw [E2.2.2.2 _ (by omega), ga6]
      have dk : ∀ b, dkP A S V i (6 + ol2 S (hP V i) c) b = gv A (ol2 S (hP V i) c + 1) (tl2 A S (hP V i) c) (aWind A (tH S + 1)) b := fun b => by
        unfold dkP
        rw [if_neg (by omega), show 6 + ol2 S (hP V i) c - 5 = ol2 S (hP V i) c + 1 by omega, show 6 + ol2 S (hP V i) c - 6 = ol2 S (hP V i) c by omega]
        unfold tl2 ol2 at *
        by_cases e : c = 5
        · rw [if_pos e] at t ⊢
          rw [if_pos (by omega), if_pos e]
        · have z0 : tL S (hP V i) = 0 := by
            rcases ok with z | ⟨-, z⟩
            · exact absurd z e
            · exact (al_c z e).2.1
          rw [if_neg e, if_neg e, if_neg (by omega)]
      refine c_pbend hv hW hT hV hi hc ok b3 q hZ ((Ea.trans (E2.mono (fun z hz => by unfold pbP; omega))).trans (b2.mono (fun z hz => by unfold pbP; unfold kpP at hz; omega))) (by
        rw [g7, h7, f7, ei]
        funext k
        by_cases z : k = 6 * i + ccO c
        · rw [z, va_eq, va_eq]
        · rw [va_ne z, va_ne z, va_ne z]) (by rw [g8, f8, va_eq, ef, n0]) (fun k hk => by rw [g8, f8, va_ne hk]) g4 (fun s hs => ?_) (fun k hk => by rw [b4, b5, va_ne (by omega), va_ne (by omega), g5, g6]; exact ⟨rfl, rfl⟩)
      unfold DK
      rw [b4, b5]
      by_cases z : s = 6 + ol2 S (hP V i) c
      · rw [z, va_eq, va_eq, dk, dk]
        exact ⟨rfl, rfl⟩
      · rw [va_ne (by omega), va_ne (by omega), g5, g6]
        rcases hs with hs | hs | ⟨-, hs⟩
        · exact q.2.2.2 s hs
        · exact absurd (hs.trans ei) z
        · rw [ef, Nat.zero_testBit] at hs; cases hs
    · have t0 : tl2 A S (hP V i) c = 0 := by omega
      have ei : idP A S V i c = 0 := by
        unfold idP
        rw [if_neg (by omega), if_neg t]
      have ef : frP A S V i c = bts (fbP S V i c) (aC A 0) := by
        unfold frP
        rw [if_neg (by omega), if_neg t]
        rfl
      obtain ⟨hb, b1, b2, b3, b4, b5, b6, b7⟩ := c_l141 (N := N) (sh := sh) (h0 := ha) hB hv hT hH hi a hc N 0 ha (by omega) (by omega) sba ⟨by rw [f8, va_eq, show bts (fbP S V i c) 0 = 0 from rfl, n0], fun k hk => rfl, fun s hs => by
        rcases hs with hs | ⟨g', g1, -⟩
        · exact qDK s hs
        · omega, fun k hk => ⟨rfl, rfl⟩⟩
      rw [n0] at b1
      rw [if_pos (show nI (tl2 A S (hP V i) c) ≤ 0 by rw [t0]; decide), b1]
      have g4 : hI hb (x + 31 + 4) = hI h (x + 31 + 4) := by rw [b2.2.2.2 _ (by unfold lqP kpP; omega), ga4]
      have g7 : hI hb (x + 31 + 7) = hI ha (x + 31 + 7) := b2.2.2.2 _ (by unfold lqP kpP; omega)
      refine c_pbend hv hW hT hV hi hc ok b3 q hZ (Ea.trans (b2.mono (fun z hz => by unfold pbP; unfold lqP kpP at hz; omega))) (by rw [g7, f7, ei, n0]) (by rw [b4, ef]) (fun k hk => by rw [b5 k hk, f8, va_ne hk]) g4 (fun s hs => ?_) (fun k hk => by rw [(b7 k hk).1, (b7 k hk).2, ga5, ga6]; exact ⟨rfl, rfl⟩)
      rcases hs with hs | hs | ⟨s1, hs⟩
      · exact b6 s (Or.inl hs)
      · rw [hs, ei]
        unfold DK
        have z := b7 (11 * i) (by omega)
        rw [show 11 * i + 0 = 11 * i from rfl, z.1, z.2]
        exact dk0
      · rw [ef, bts_tb, Bool.and_eq_true, decide_eq_true_eq] at hs
        exact b6 s (Or.inr ⟨s - 1, hs.1, hs.2, by omega⟩)
theorem c_pb (hB : 2000 ≤ N) (hv : x + 43 ≤ v) (hT : WS A J S) (hH : tH S < 2 ^ 30) (hV : V < 16) (hi : i < 4) (ok : okc A S V i c) {D : Nat → Prop} {sh : Nat} {h : PH} (sb : SB A S x v h) (hs : HS V x h) (q : PQ A S V x i D sh h) (hZ : Z11 h x) : ∃ h' sh', f_X3_prepareBehind N (x + 31) (nI i) (cm c) h = some ((), h') ∧ Ex (pbP x v) h h' ∧ SB A S x v h' ∧ PQ A S V x i (fun d => D d ∨ d = c) sh' h' ∧ Pfr x i h h' := by
  obtain ⟨sp, ⟨r9, r10⟩, pv, hS, hC⟩ := id sb
  have hW := pv.2.2.1
  have h5 := hW.1.1
  have oc := okc_lt hW ok
  have n0 : nI 0 = (0 : Int32) := by decide
  have xi : ix (nI i) = i := ix_nI (by omega)
  have hsi := hs i hi
  unfold f_X3_prepareBehind
  rw [ck_p sp.1, pR_houses sp, rq_s, ck_p (pK_houses sp), pN_houses sp, ck_p (nI_ix hi (by decide)), xi, hsi, bd_e, r10, rq_s, ck_p hS.1]
  rcases hP_d V hV i hi with ⟨a, -⟩ | ⟨a, -, -, -⟩
  · have eh : hsI (hP V i) = -1 := if_pos a
    have c5 : c = 5 := by
      rcases ok with z | ⟨z, -⟩
      · exact z
      · omega
    rw [eh, c_burns_out, cl_s, if_pos rfl]
    unfold f_X3_prepareBehind_35
    rw [if_pos rfl, if_pos (show cm c = -1 by rw [c5]; rfl)]
    exact c_pb76 hB hv hT hH hV hi oc.1 ok (fun _ => ⟨rfl, rfl, c5⟩) (fun z => by omega) sb q hZ (by omega)
  · have eh : hsI (hP V i) = nI (hP V i) := if_neg (by omega)
    have tS' := hT.2.1 _ a
    have j4 : inb (nI (hP V i)) 4 := nI_ix a (by decide)
    have xj : ix (nI (hP V i)) = hP V i := ix_nI (by omega)
    rw [eh, c_burns hS hC hT a, cl_s, ite_i yes0]
    by_cases z : 0 < tL S (hP V i)
    · have c5 : c = 5 := by
        rcases ok with y | ⟨-, y⟩
        · exact y
        · by_cases e : c = 5
          · exact e
          · have := (al_c y e).2.1
            omega
      rw [if_neg (fun y => y z), ck_p sp.1, r10, rq_s, ck_p hS.1, sR_fuel hS, rq_s, ck_p (sK_fuel hS), sN_fuel hS, ck_p j4, xj, hC.2.2.1 _ a]
      unfold f_X3_prepareBehind_35
      rw [ite_i yes0, if_neg (fun y => y z), ck_p sp.1, r10, rq_s, ck_p hS.1, sR_left hS, rq_s, ck_p (sK_left hS), sN_left hS, ck_p j4, xj, hC.2.2.2.1 _ a, show nI (tL S (hP V i)) - (1 : Int32) = nI (tL S (hP V i) - 1) from pk_sub (show 1 ≤ tL S (hP V i) by omega)]
      refine c_pb76 hB hv hT hH hV hi oc.1 ok (fun y => by omega) (fun _ => ⟨rfl, ?_, fun y => ?_⟩) sb q hZ (by omega)
      · unfold tl2
        rw [if_pos c5]
      · unfold ol2
        rw [if_pos c5]
        have f0 : tF S (hP V i) ≠ 0 := fun y' => by
          have := tS'.2.2.1.mpr y'
          omega
        obtain ⟨k, hk⟩ : ∃ k, tF S (hP V i) = k + 1 := ⟨tF S (hP V i) - 1, by omega⟩
        rw [hk, pk_m1, Nat.add_sub_cancel]
    · rw [if_pos z]
      unfold f_X3_prepareBehind_35
      rw [ite_i yes0, if_pos z]
      by_cases c5 : c = 5
      · rw [if_pos (show cm c = -1 by rw [c5]; rfl)]
        refine c_pb76 hB hv hT hH hV hi oc.1 ok (fun y => by omega) (fun _ => ⟨rfl, ?_, fun y => ?_⟩) sb q hZ (by omega)
        · unfold tl2
          rw [if_pos c5, show tL S (hP V i) - 1 = 0 by omega, n0]
        · unfold tl2 at y
          rw [if_pos c5] at y
          omega
      · have cl := oc.2 c5
        have hBc := hW.2.1 c cl.1
        have ec : cm c = nI c := if_neg c5
        rw [if_neg (by rw [ec]; exact ni1 (by omega)), ck_p sp.1, r9, rq_s, ck_p pv.1.1, vR_burns pv.1, rq_s, ck_p (vK_burns pv.1), vN_burns pv.1]
        have i5 : inb (cm c) 5 := by rw [ec]; exact nI_ix cl.2 (by decide)
        have x5 : ix (cm c) = c := by rw [ec]; exact ix_nI (by omega)
        rw [ck_p i5, x5, (pv.2.1.2.2.1 c cl.1).2.2, show nI (aB A c) - (1 : Int32) = nI (aB A c - 1) from pk_sub (show 1 ≤ aB A c by omega)]
        refine c_pb76 hB hv hT hH hV hi oc.1 ok (fun y => by omega) (fun _ => ⟨rfl, ?_, fun y => ?_⟩) sb q hZ (by omega)
        · unfold tl2
          rw [if_neg c5]
        · unfold ol2
          rw [if_neg c5, ec]
end SPB1
