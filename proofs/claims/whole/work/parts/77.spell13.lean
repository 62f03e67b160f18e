/-! The duty of spell, the class's side: all places are prepared. -/
section SPC1
variable {N x v J i c g : Nat} {A : AV} {S : AS} {V : Nat}
theorem HS.ex {P : Nat → Prop} {h h' : PH} (e : Ex P h h') (hP : ¬ P (x + 31 + 1)) (p : HS V x h) : HS V x h' := fun q hq => by
  rw [e.2.2.2 _ hP]
  exact p q hq
theorem PQ.cg {D D' : Nat → Prop} {sh : Nat} {h : PH} (e : ∀ c, D' c → D c) (q : PQ A S V x i D sh h) : PQ A S V x i D' sh h := ⟨fun c hc => q.1 c (e c hc), q.2⟩
theorem c_p15 (hB : 2000 ≤ N) (hv : x + 43 ≤ v) (hT : WS A J S) (hH : tH S < 2 ^ 30) (hV : V < 16) (hi : i < 4) : ∀ (n g sh : Nat) (h : PH), aC A 0 < n + g → g ≤ aC A 0 → SB A S x v h → HS V x h → Z11 h x → PQ A S V x i (fun d => d = 5 ∨ (d < g ∧ okc A S V i d)) sh h → ∃ h' sh', f_X3_prepare_15 N n (x + 31) (nI i) (nI g) h = some ((), h') ∧ Ex (pbP x v) h h' ∧ SB A S x v h' ∧ PQ A S V x i (okc A S V i) sh' h' ∧ Pfr x i h h'
  | 0, g, sh, h, h1, h2, _, _, _, _ => by omega
  | n + 1, g, sh, h, h1, h2, sb, hs, hZ, q => by
    obtain ⟨sp, ⟨r9, r10⟩, pv, hS, hC⟩ := id sb
    have hW := pv.2.2.1
    have h5 := hW.1.1
    have xi : ix (nI i) = i := ix_nI (by omega)
    have hsi := hs i hi
    show ∃ h' sh', f_X3_prepare_15_b N (f_X3_prepare_15 N n) (x + 31) _ _ h = _ ∧ _
    unfold f_X3_prepare_15_b
    rw [ck_p sp.1, r9, rq_s, ck_p pv.1.1, vR_many pv.1, rq_s, ck_p (vK_many pv.1), vN_many pv.1, ck_p (by decide), pv.2.1.1 0 (by decide), ite_i (nI_leI (by omega) (by omega))]
    by_cases e : aC A 0 ≤ g
    · rw [if_pos e]
      refine ⟨h, sh, rfl, Ex.rf, sb, q.cg (fun c hc => ?_), Pfr.rf⟩
      by_cases z : c = 5
      · exact Or.inl z
      · have := (okc_lt hW hc).2 z
        exact Or.inr ⟨by omega, hc⟩
    rw [if_neg e, r10, rq_s, pR_houses sp, rq_s, ck_p (pK_houses sp), pN_houses sp, ck_p (nI_ix hi (by decide)), ck_p hS.1, xi, hsi]
    unfold f_X3_prepare_51
    have skip : ¬ okc A S V i g → ∃ h' sh', f_X3_prepare_15 N n (x + 31) (nI i) (nI (g + 1)) h = some ((), h') ∧ Ex (pbP x v) h h' ∧ SB A S x v h' ∧ PQ A S V x i (okc A S V i) sh' h' ∧ Pfr x i h h' := fun nk =>
      c_p15 hB hv hT hH hV hi n (g + 1) sh h (by omega) (by omega) sb hs hZ (q.cg (fun c hc => by
        rcases hc with hc | ⟨c1, c2⟩
        · exact Or.inl hc
        · refine Or.inr ⟨?_, c2⟩
          by_cases z : c = g
          · rw [z] at c2; exact absurd c2 nk
          · omega))
    have go : okc A S V i g → ∃ h' sh', (cl (f_X3_prepareBehind N (x + 31) (nI i) (nI g) h) fun r16 h17 => f_X3_prepare_15 N n (x + 31) (nI i) (nI (g + 1)) h17) = some ((), h') ∧ Ex (pbP x v) h h' ∧ SB A S x v h' ∧ PQ A S V x i (okc A S V i) sh' h' ∧ Pfr x i h h' := fun yk => by
      obtain ⟨ha, sa, a1, a2, a3, a4, a5⟩ := c_pb (N := N) hB hv hT hH hV hi yk sb hs q hZ
      rw [cm_n (show g < 5 by omega)] at a1
      obtain ⟨h', s', t1, t2, t3, t4, t5⟩ := c_p15 hB hv hT hH hV hi n (g + 1) sa ha (by omega) (by omega) a3 (hs.ex a2 (by unfold pbP; omega)) (a5.z hi hZ) (a4.cg (fun c hc => by
        rcases hc with hc | ⟨c1, c2⟩
        · exact Or.inl (Or.inl hc)
        · by_cases z : c = g
          · exact Or.inr z
          · exact Or.inl (Or.inr ⟨by omega, c2⟩)))
      rw [a1, cl_s]
      exact ⟨h', s', t1, a2.trans t2, t3, t4, a5.trans t5⟩
    rcases hP_d V hV i hi with ⟨a, -⟩ | ⟨a, -, -, -⟩
    · rw [show hsI (hP V i) = -1 from if_pos a, c_canLight_out hS, cl_s, if_pos rfl, bd_e, nI_1]
      refine skip (fun z => ?_)
      rcases z with z | ⟨z, -⟩ <;> omega
    · rw [show hsI (hP V i) = nI (hP V i) from if_neg (by omega), c_canLight hS hC hT a (by omega), cl_s, ite_i yes0]
      by_cases t : tL S (hP V i) = 0 ∧ 0 < tT S (5 * hP V i + g)
      · rw [if_neg (fun z => z t), ck_p sp.1]
        simp only [bd_e, nI_1]
        refine go (Or.inr ⟨a, ?_⟩)
        unfold al
        rw [Bool.or_eq_true, Bool.and_eq_true, decide_eq_true_eq, decide_eq_true_eq, decide_eq_true_eq]
        exact Or.inr ⟨by omega, t⟩
      · rw [if_pos t, bd_e, nI_1]
        refine skip (fun z => ?_)
        rcases z with z | ⟨-, z⟩
        · omega
        · exact t (al_c z (by omega)).2
theorem c_prep (hB : 2000 ≤ N) (hv : x + 43 ≤ v) (hT : WS A J S) (hH : tH S < 2 ^ 30) (hV : V < 16) (hi : i < 4) {h : PH} (sb : SB A S x v h) (hs : HS V x h) (hZ : Z11 h x) : ∃ h' sh', f_X3_prepare N (x + 31) (nI i) h = some ((), h') ∧ Ex (pbP x v) h h' ∧ SB A S x v h' ∧ PQ A S V x i (okc A S V i) sh' h' ∧ Pfr x i h h' := by
  obtain ⟨sp, ⟨r9, r10⟩, pv, hS, hC⟩ := id sb
  have hW := pv.2.2.1
  have h5 := hW.1.1
  have n0 : nI 0 = (0 : Int32) := by decide
  have xi : ix (nI i) = i := ix_nI (by omega)
  have E1 : Ex (fun z => z = x + 31 + 4) h (sI h (x + 31 + 4) i 0) := Ex.sI rfl
  have f4 : hI (sI h (x + 31 + 4) i 0) (x + 31 + 4) = va_up (hI h (x + 31 + 4)) i 0 := hI_sI_eq
  have sba := sb.own hv E1 (fun z hz => by omega)
  unfold f_X3_prepare
  rw [ck_p sp.1, pR_shows sp, rq_s, ck_p (pK_shows sp), pN_shows sp, ck_p (nI_ix hi (by decide)), xi, bd_e]
  generalize sI h (x + 31 + 4) i 0 = ha at E1 f4 sba ⊢
  have Pa : Pfr x i h ha := ⟨fun k hk => ⟨by rw [E1.2.2.2 _ (by omega)], by rw [E1.2.2.2 _ (by omega)]⟩, fun k hk => by rw [f4, va_ne hk], fun k hk => ⟨by rw [E1.2.2.2 _ (by omega)], by rw [E1.2.2.2 _ (by omega)]⟩⟩
  have Ea : Ex (pbP x v) h ha := E1.mono (fun z hz => by unfold pbP; omega)
  obtain ⟨hb, s1, b1, b2, b3, b4, b5⟩ := c_pb (N := N) (D := fun _ => False) (sh := 0) hB hv hT hH hV hi (c := 5) (Or.inl rfl) sba (hs.ex E1 (by omega)) ⟨fun c hc => absurd hc id, by rw [f4, va_eq, n0], by decide, fun s hs => by rw [Nat.zero_testBit] at hs; cases hs⟩ (Pa.z hi hZ)
  rw [cm_5] at b1
  obtain ⟨h', s', t1, t2, t3, t4, t5⟩ := c_p15 (N := N) hB hv hT hH hV hi N 0 s1 hb (by omega) (by omega) b3 ((hs.ex E1 (by omega)).ex b2 (by unfold pbP; omega)) ((Pa.trans b5).z hi hZ) (b4.cg (fun c hc => by
    rcases hc with hc | ⟨c1, c2⟩
    · exact Or.inr hc
    · omega))
  rw [n0] at t1
  rw [ck_p sba.1.1, b1, cl_s]
  exact ⟨h', s', t1, (Ea.trans b2).trans t2, t3, t4, (Pa.trans b5).trans t5⟩
/-- the places below i are prepared -/
def PA (A : AV) (S : AS) (V x i : Nat) (sh : Nat → Nat) (h : PH) : Prop := ∀ p, p < i → PQ A S V x p (okc A S V p) (sh p) h
theorem PA.next {h h' : PH} {sh : Nat → Nat} {s : Nat} (hW : WV A) (p : Pfr x i h h') (a : PA A S V x i sh h) (q : PQ A S V x i (okc A S V i) s h') : PA A S V x (i + 1) (va_up sh i s) h' := fun k hk => by
  by_cases e : k = i
  · rw [e, va_eq]; exact q
  · rw [va_ne e]
    exact (a k (by omega)).fr e (fun c hc => (okc_lt hW hc).1) p
end SPC1
