/-! The duty of spell, the class's side: find, firstOf; the duty. -/
/-- the search's cells while its houses are being told -/
def SVi (A : AV) (S : AS) (x v f : Nat) (w1 w2 : Int32) (i : Nat) (h : PH) : Prop := SB A S x v h ∧ (∀ p, p < 4 → hI h (x + 31 + 1) p = if p < rkX (aHs A f) i then hsI (hP (aHs A f) p) else -1) ∧ (hI h (x + 31) 11 = nI (rkX (aHs A f) i) ∧ hI h (x + 31) 12 = w1 ∧ hI h (x + 31) 13 = w2) ∧ RWq (aHs A f) x u5 h ∧ Z11 h x
/-- all houses are told -/
def SVh (A : AV) (S : AS) (x v f : Nat) (w1 w2 : Int32) (h : PH) : Prop := SB A S x v h ∧ HS (aHs A f) x h ∧ (hI h (x + 31) 11 = nI (rkX (aHs A f) 4) ∧ hI h (x + 31) 12 = w1 ∧ hI h (x + 31) 13 = w2) ∧ RWq (aHs A f) x u5 h
section SPG1
variable {N x v J f : Nat} {A : AV} {S : AS} {w1 w2 : Int32}
theorem SVh.ex {h h' : PH} (hv : x + 43 ≤ v) (e : Ex (skP x v) h h') (hV : VA h' v A) (e0 : hI h' (x + 31) = hI h (x + 31)) (e1 : hI h' (x + 31 + 1) = hI h (x + 31 + 1)) (e2 : hI h' (x + 31 + 2) = hI h (x + 31 + 2)) (p : SVh A S x v f w1 w2 h) : SVh A S x v f w1 w2 h' := by
  obtain ⟨p1, p2, p3, p4⟩ := p
  refine ⟨p1.ex hv e hV, ?_, by rw [e0]; exact p3, ?_⟩
  · unfold HS at p2 ⊢
    rw [e1]; exact p2
  · unfold RWq at p4 ⊢
    rw [e2]; exact p4
theorem c_139 (hB : 2000 ≤ N) (hv : x + 43 ≤ v) (hT : WS A J S) (hH : tH S < 2 ^ 30) {h : PH} (sv : SVh A S x v f w1 w2 h) (tb : w2 = -2 ∨ TBq A S f w2 x h) : ∃ h', f_X3_find_139 N (x + 31) h = some (if (spL A S f w1 w2 (ws (noF A S f) (al A S) 4 0 u5) (9, u5)).1 = 9 then 0 else 1, h') ∧ Ex (g1q x v) h h' ∧ SVq A S x v f w1 w2 (spL A S f w1 w2 (ws (noF A S f) (al A S) 4 0 u5) (9, u5)) h' := by
  obtain ⟨sb, hs, ⟨q11, q12, q13⟩, fr⟩ := sv
  have sp := sb.1
  have E1 : Ex (fun z => z = x + 31) h (sI h (x + 31) 14 (9 : Int32)) := Ex.sI rfl
  have f1 : hI (sI h (x + 31) 14 (9 : Int32)) (x + 31) = va_up (hI h (x + 31)) 14 (9 : Int32) := hI_sI_eq
  unfold f_X3_find_139
  rw [ck_p sp.1, bd_e]
  have sv1 : SVq A S x v f w1 w2 (9, u5) (sI h (x + 31) 14 (9 : Int32)) := by
    refine ⟨sb.own hv E1 (fun z hz => by omega), hs.ex E1 (by omega), ?_, fun z => absurd rfl z, tb.imp id (fun t => t.ex E1 (fun z hz => by omega))⟩
    rw [f1, va_ne (by decide), va_ne (by decide), va_ne (by decide), va_eq]
    exact ⟨q11, q12, q13, rfl⟩
  have fr1 := fr.ex E1 (by omega)
  generalize sI h (x + 31) 14 (9 : Int32) = ha at E1 sv1 fr1 ⊢
  have lu0 : LU A S u5 := fun _ _ => Or.inl rfl
  obtain ⟨h', k1, k2, k3, -⟩ := c_go1 (N := N) hB hv hT hH 4 0 40 u5 (9, u5) ha rfl (by decide) lu0 (fun _ _ => rfl) (Nat.le_refl 9) sv1 fr1
  rw [show bn u5 = 0 from rfl] at k1
  have k1 : f_X3_goFirst 40 N (x + 31) 0 0 0 0 ha = _ := k1
  have l9 := spL_le (A := A) (S := S) (f := f) (w1 := w1) (w2 := w2) (ws (noF A S f) (al A S) 4 0 u5) (9, u5)
  have l9 : (spL A S f w1 w2 (ws (noF A S f) (al A S) 4 0 u5) (9, u5)).1 ≤ 9 := l9
  refine ⟨h', ?_, (E1.mono (fun z hz => by unfold g1q; omega)).trans k2, k3⟩
  rw [ck_p sv1.1.1.1, k1, cl_s, ck_p k3.1.1.1, k3.2.2.1.2.2.2, ite_i (show (9 : Int32) ≤ nI (spL A S f w1 w2 (ws (noF A S f) (al A S) 4 0 u5) (9, u5)).1 ↔ (spL A S f w1 w2 (ws (noF A S f) (al A S) 4 0 u5) (9, u5)).1 = 9 from (nI_leI (a := 9) (by decide) (by omega)).trans ⟨fun z => by omega, fun z => by omega⟩)]
  by_cases e : (spL A S f w1 w2 (ws (noF A S f) (al A S) 4 0 u5) (9, u5)).1 = 9
  · rw [if_pos e, if_pos e]
  · rw [if_neg e, if_neg e]
theorem c_105 (hB : 2001 ≤ N) (hv : x + 43 ≤ v) (hT : WS A J S) (hH : tH S < 2 ^ 30) : ∀ (k i n : Nat) (sh : Nat → Nat) (h : PH), i + k = 4 → k < n → SVh A S x v f w1 w2 h → Z11 h x → PA A S (aHs A f) x i sh h → ∃ h', f_X3_find_105 N n (x + 31) (nI i) h = some (if (spL A S f w1 w2 (ws (noF A S f) (al A S) 4 0 u5) (9, u5)).1 = 9 then 0 else 1, h') ∧ Ex (skP x v) h h' ∧ SVq A S x v f w1 w2 (spL A S f w1 w2 (ws (noF A S f) (al A S) 4 0 u5) (9, u5)) h' ∧ Z11 h' x
  | 0, i, n, sh, h, hi, hn, sv, hZ, pa => by
    obtain ⟨n, rfl⟩ : ∃ q, n = q + 1 := ⟨n - 1, by omega⟩
    have ei : i = 4 := by omega
    subst ei
    have hW := sv.1.2.2.1.2.2.1
    have hV := aHs_lt hW f
    have sp := sv.1.1
    have n0 : nI 0 = (0 : Int32) := by decide
    show ∃ h', f_X3_find_105_b N (f_X3_find_105 N n) (x + 31) (nI 4) h = _ ∧ _
    unfold f_X3_find_105_b
    obtain ⟨ha, a1, a2, a3⟩ := c_fill hB (show 1331 ≤ 2000 by decide) ⟨pK_rdg sp, pN_rdg sp⟩ (0 : Int32)
    have E1 : Ex (skP x v) h ha := a2.mono (fun z hz => by unfold skP; omega)
    have sva : SVh A S x v f w1 w2 ha := sv.ex hv E1 (sv.1.2.2.1.ex a2 (fun z z1 z2 => by omega)) (a2.2.2.2 _ (by omega)) (a2.2.2.2 _ (by omega)) (a2.2.2.2 _ (by omega))
    obtain ⟨hb, R, b1, b2, b3, b4⟩ := c_note (N := N) (w := w2) (sh := sh) (show 2000 ≤ N by omega) hv 3 0 40 0 0 0 (fun _ => 0) ha rfl (by decide) (by decide) (Nat.zero_le _) (Nat.zero_le _) ⟨sva.1, pa.ex a2 (fun z hz => by omega), sva.2.2.1.2.2, fun k hk => ⟨by rw [a3 k hk, n0], show 0 < 2 ^ 11 by decide⟩⟩
    have b1 : f_X3_note 40 N (x + 31) 0 0 0 0 ha = _ := b1
    have E2 : Ex (skP x v) ha hb := b2.mono (fun z hz => by unfold skP; omega)
    have svb : SVh A S x v f w1 w2 hb := sva.ex hv E2 (sva.1.2.2.1.ex b2 (fun z z1 z2 => by omega)) (b2.2.2.2 _ (by omega)) (b2.2.2.2 _ (by omega)) (b2.2.2.2 _ (by omega))
    have pab := (pa.ex a2 (fun z hz => by omega)).ex b2 (fun z hz => by omega)
    have tb : TBq A S f w2 x hb := ⟨sh, R, pab, b3, fun s hs => by
      rw [b4, Nat.zero_testBit]
      rw [nb_fin (fun p hp => (pab p hp).2.2.1) hs]
      exact ⟨fun z => z.resolve_left (by decide), Or.inr⟩⟩
    obtain ⟨h', t1, t2, t3⟩ := c_139 (N := N) (show 2000 ≤ N by omega) hv hT hH svb (Or.inr tb)
    refine ⟨h', ?_, (E1.trans E2).trans (t2.mono (fun z hz => by unfold skP; unfold g1q at hz; omega)), t3, hZ.eq (fun z hz => ?_)⟩
    · rw [if_pos (show (3 : Int32) < nI 4 by decide), ck_p sp.1, pR_rdg sp, rq_s, a1, cl_s, ck_p sva.1.1.1, b1, cl_s]
      exact t1
    · rw [t2.2.2.2 _ (by unfold g1q; omega), b2.2.2.2 _ (by omega), a2.2.2.2 _ (by omega)]
  | k + 1, i, n, sh, h, hi, hn, sv, hZ, pa => by
    obtain ⟨n, rfl⟩ : ∃ q, n = q + 1 := ⟨n - 1, by omega⟩
    have hW := sv.1.2.2.1.2.2.1
    have hV := aHs_lt hW f
    have sp := sv.1.1
    show ∃ h', f_X3_find_105_b N (f_X3_find_105 N n) (x + 31) (nI i) h = _ ∧ _
    unfold f_X3_find_105_b
    obtain ⟨ha, sa, a1, a2, a3, a4, a5⟩ := c_prep (N := N) (show 2000 ≤ N by omega) hv hT hH hV (show i < 4 by omega) sv.1 sv.2.1 hZ
    have E1 : Ex (skP x v) h ha := a2.mono (fun z hz => by unfold skP; unfold pbP at hz; omega)
    have sva : SVh A S x v f w1 w2 ha := sv.ex hv E1 a3.2.2.1 (a2.2.2.2 _ (by unfold pbP; omega)) (a2.2.2.2 _ (by unfold pbP; omega)) (a2.2.2.2 _ (by unfold pbP; omega))
    obtain ⟨h', t1, t2, t3, t4⟩ := c_105 hB hv hT hH k (i + 1) n (va_up sh i sa) ha (by omega) (by omega) sva (a5.z (by omega) hZ) (PA.next hW a5 pa a4)
    refine ⟨h', ?_, E1.trans t2, t3, t4⟩
    rw [if_neg (show ¬ (3 : Int32) < nI i from fun z => by
      have := (show (3 : Int32) < nI i ↔ 3 < i from nI_ltI (a := 3) (by decide) (by omega)).mp z
      omega), ck_p sp.1, a1, cl_s, bd_e, nI_1]
    exact t1
theorem c_find46 (hB : 2001 ≤ N) (hv : x + 43 ≤ v) (hf : f < 1000) (hT : WS A J S) (hH : tH S < 2 ^ 30) : ∀ (n i : Nat) (h : PH), aC A 2 < n + i → i ≤ aC A 2 → SVi A S x v f w1 w2 i h → ∃ h', f_X3_find_46 N n (x + 31) v (nI f) w2 (nI i) h = some (if (spL A S f w1 w2 (ws (noF A S f) (al A S) 4 0 u5) (9, u5)).1 = 9 then 0 else 1, h') ∧ Ex (skP x v) h h' ∧ SVq A S x v f w1 w2 (spL A S f w1 w2 (ws (noF A S f) (al A S) 4 0 u5) (9, u5)) h' ∧ Z11 h' x
  | 0, i, h, h1, h2, _ => by omega
  | n + 1, i, h, h1, h2, sv => by
    obtain ⟨sb, hh, ⟨q11, q12, q13⟩, fr, hZ⟩ := id sv
    obtain ⟨sp, ⟨r9, r10⟩, pv, hS, hC⟩ := id sb
    have hW := pv.2.2.1
    have h4 := hW.1.2.2.1
    have h3 := hW.1.2.1
    have hV := aHs_lt hW f
    show ∃ h', f_X3_find_46_b N (f_X3_find_46 N n) (x + 31) v _ _ _ h = _ ∧ _
    unfold f_X3_find_46_b f_X3_find_89
    rw [ck_p pv.1.1, vR_many pv.1, rq_s, ck_p (vK_many pv.1), vN_many pv.1, ck_p (by decide), pv.2.1.1 2 (by decide), ite_i (nI_leI (by omega) (by omega))]
    by_cases c : aC A 2 ≤ i
    · have ei : i = aC A 2 := by omega
      have e4 : rkX (aHs A f) i = rkX (aHs A f) 4 := by
        have := rkX_hi (V := aHs A f) (n := aC A 2) (4 - aC A 2) (fun j h1 h2 z => by have := (aHs_b.mp z).1; omega)
        rw [show aC A 2 + (4 - aC A 2) = 4 by omega] at this
        rw [ei]; exact this.symm
      rw [e4] at q11
      have svh : SVh A S x v f w1 w2 h := ⟨sb, fun p hp => by
        rw [hh p hp, e4]
        rcases hP_d _ hV p hp with ⟨a, b⟩ | ⟨-, -, -, b⟩
        · rw [if_neg (by omega)]
          exact (if_pos a).symm
        · rw [if_pos b], ⟨q11, q12, q13⟩, fr⟩
      rw [if_pos c]
      by_cases e2 : w2 = -2
      · rw [if_pos e2]
        obtain ⟨h', t1, t2, t3⟩ := c_139 (N := N) (show 2000 ≤ N by omega) hv hT hH svh (Or.inl e2)
        exact ⟨h', t1, t2.mono (fun z hz => by unfold skP; unfold g1q at hz; omega), t3, hZ.eq (fun z hz => t2.2.2.2 _ (by unfold g1q; omega))⟩
      · rw [if_neg e2]
        exact c_105 (N := N) hB hv hT hH 4 0 N (fun _ => 0) h rfl (by omega) svh hZ (fun p hp => absurd hp (Nat.not_lt_zero p))
    · have fl := hW.2.2.1 i (by omega)
      rw [if_neg c, vR_flue pv.1, rq_s, ck_p (vK_flue pv.1), vN_flue pv.1, ck_p (nI_ix (by omega) (by decide)), ix_nI (by omega), pv.2.1.2.2.2.1 i (by omega), ite_i (nI_eq (by omega) (by omega))]
      by_cases e : aF A i = f
      · have ti : (aHs A f).testBit i = true := aHs_b.mpr ⟨by omega, e⟩
        have rl := rkX_le (aHs A f) i
        have r4 := rkX_lt (show i < 4 by omega) ti
        have r44 := rkX_le (aHs A f) 4
        have jr : inb (nI (rkX (aHs A f) i)) 4 := nI_ix (by omega) (by decide)
        have xr : ix (nI (rkX (aHs A f) i)) = rkX (aHs A f) i := ix_nI (by omega)
        have E1 : Ex (fun z => z = x + 31 ∨ z = x + 32) h (sI h (x + 31 + 1) (rkX (aHs A f) i) (nI i)) := Ex.sI (by omega)
        have f1 : hI (sI h (x + 31 + 1) (rkX (aHs A f) i) (nI i)) (x + 31 + 1) = va_up (hI h (x + 31 + 1)) (rkX (aHs A f) i) (nI i) := hI_sI_eq
        have g1 : hI (sI h (x + 31 + 1) (rkX (aHs A f) i) (nI i)) (x + 31) = hI h (x + 31) := hI_sI_ne (by omega)
        rw [if_pos e, ck_p sp.1, pR_houses sp, rq_s, ck_p (pK_houses sp), pN_houses sp, q11, ck_p jr, xr, bd_e]
        generalize sI h (x + 31 + 1) (rkX (aHs A f) i) (nI i) = ha at E1 f1 g1
        have E2 : Ex (fun z => z = x + 31 ∨ z = x + 32) ha (sI ha (x + 31) 11 (nI (rkX (aHs A f) i + 1))) := Ex.sI (by omega)
        have f2 : hI (sI ha (x + 31) 11 (nI (rkX (aHs A f) i + 1))) (x + 31) = va_up (hI ha (x + 31)) 11 (nI (rkX (aHs A f) i + 1)) := hI_sI_eq
        have g2 : hI (sI ha (x + 31) 11 (nI (rkX (aHs A f) i + 1))) (x + 31 + 1) = hI ha (x + 31 + 1) := hI_sI_ne (by omega)
        rw [ck_p (sp.sm E1.1).1, g1, q11, nI_1, bd_e]
        generalize sI ha (x + 31) 11 (nI (rkX (aHs A f) i + 1)) = hb at E2 f2 g2
        have EE := E1.trans E2
        have sl : hI hb (x + 31) = va_up (hI h (x + 31)) 11 (nI (rkX (aHs A f) i + 1)) := by rw [f2, g1]
        obtain ⟨h', t1, t2, t3, t4⟩ := c_find46 hB hv hf hT hH n (i + 1) hb (by omega) (by omega) ⟨sb.own hv EE (fun z hz => by omega), fun p hp => by
          rw [g2, f1, rkX_s ti]
          by_cases z : p = rkX (aHs A f) i
          · rw [z, va_eq, if_pos (by omega), hP_r _ hV i (by omega) ti]
            exact (if_neg (by omega)).symm
          · rw [va_ne z, hh p hp]
            by_cases y : p < rkX (aHs A f) i
            · rw [if_pos y, if_pos (by omega)]
            · rw [if_neg y, if_neg (by omega)], by
          rw [sl, va_eq, va_ne (by decide), va_ne (by decide), rkX_s ti]
          exact ⟨rfl, q12, q13⟩, fr.ex EE (by omega), hZ.eq (fun z hz => EE.2.2.2 _ (by omega))⟩
        refine ⟨h', ?_, (EE.mono (fun z hz => by unfold skP; omega)).trans t2, t3, t4⟩
        rw [bd_e, nI_1]
        exact t1
      · have ti : ¬ (aHs A f).testBit i = true := fun z => e (aHs_b.mp z).2
        rw [if_neg e, bd_e, nI_1]
        exact c_find46 hB hv hf hT hH n (i + 1) h (by omega) (by omega) ⟨sb, by rw [rkX_n ti]; exact hh, by rw [rkX_n ti]; exact ⟨q11, q12, q13⟩, fr, hZ⟩
theorem sp_sR {h : PH} {k j : Nat} {u : Option Nat} (hj : 9 ≤ j) (p : SP h k) : SP (sR h k j u) k := by
  have e : ∀ q, q < 9 → hR (sR h k j u) k q = hR h k q := fun q hq => up2R _ _ _ _ (Or.inr (by omega))
  unfold SP at p ⊢
  rw [e 0 (by decide), e 1 (by decide), e 2 (by decide), e 3 (by decide), e 4 (by decide), e 5 (by decide), e 6 (by decide), e 7 (by decide), e 8 (by decide)]
  exact p
theorem c_find0 (hB : 2001 ≤ N) (hv : x + 43 ≤ v) {h : PH} (sp : SP h (x + 31)) (hz' : v + 18 ≤ hz h) (pv : VA h v A) (hS : ST h (x + 3 + 1)) (hC : CS h (x + 3 + 1) S) (hZ : Z11 h x) : ∃ g, f_X3_find N (x + 31) v (x + 3 + 1) (nI f) w1 w2 h = f_X3_find_46 N N (x + 31) v (nI f) w2 0 g ∧ Kx x (fun z => ¬ skP x v z) h g ∧ SVi A S x v f w1 w2 0 g := by
  have hW := pv.2.2.1
  have s1 : Shp x h (sR h (x + 31) 9 (some v)) := Shp.sR (Or.inr (Or.inr ⟨rfl, by omega⟩))
  have s2 : Shp x (sR h (x + 31) 9 (some v)) (sR (sR h (x + 31) 9 (some v)) (x + 31) 10 (some (x + 3 + 1))) := Shp.sR (Or.inr (Or.inr ⟨rfl, by omega⟩))
  have sh := s1.trans s2
  have r9 : hR (sR (sR h (x + 31) 9 (some v)) (x + 31) 10 (some (x + 3 + 1))) (x + 31) 9 = some v := by rw [up2R _ _ _ _ (Or.inr (by decide)), up2Rs]
  have r10 : hR (sR (sR h (x + 31) 9 (some v)) (x + 31) 10 (some (x + 3 + 1))) (x + 31) 10 = some (x + 3 + 1) := up2Rs _ _ _ _
  have sp1 : SP (sR h (x + 31) 9 (some v)) (x + 31) := sp_sR (by decide) sp
  have sp2' : SP (sR (sR h (x + 31) 9 (some v)) (x + 31) 10 (some (x + 3 + 1))) (x + 31) := sp_sR (by decide) sp1
  have kA : Kx x (fun _ => True) h (sR (sR h (x + 31) 9 (some v)) (x + 31) 10 (some (x + 3 + 1))) := ⟨sh, fun z _ => ⟨rfl, rfl⟩⟩
  have pv2 : VA (sR (sR h (x + 31) 9 (some v)) (x + 31) 10 (some (x + 3 + 1))) v A := pv.kx kA (fun _ _ _ => trivial) hz' hv
  have hS2 : ST (sR (sR h (x + 31) 9 (some v)) (x + 31) 10 (some (x + 3 + 1))) (x + 3 + 1) := hS.shp sh (by omega) (by omega)
  have hC2 : CS (sR (sR h (x + 31) 9 (some v)) (x + 31) 10 (some (x + 3 + 1))) (x + 3 + 1) S := hC.kx kA (fun _ _ _ => trivial)
  have hZ2 : Z11 (sR (sR h (x + 31) 9 (some v)) (x + 31) 10 (some (x + 3 + 1))) x := hZ.eq (fun z _ => (kA.2 z trivial).1)
  unfold f_X3_find
  rw [ck_p sp.1, bd_e, ck_p sp1.1, bd_e]
  generalize sR (sR h (x + 31) 9 (some v)) (x + 31) 10 (some (x + 3 + 1)) = g0 at kA r9 r10 sp2' pv2 hS2 hC2 hZ2 ⊢
  have n0 : nI 0 = (0 : Int32) := by decide
  have sb0 : SB A S x v g0 := ⟨sp2', ⟨r9, r10⟩, pv2, hS2, hC2⟩
  have k1 := sp2'.sm (Sm.sI (h := g0) (a := x + 31) (k := 12) (v := w1))
  have k2 := k1.sm (Sm.sI (h := sI g0 (x + 31) 12 w1) (a := x + 31) (k := 13) (v := w2))
  have E1 : Ex (fun z => z = x + 31) g0 (sI (sI (sI g0 (x + 31) 12 w1) (x + 31) 13 w2) (x + 31) 11 0) := ((Ex.sI (P := fun z => z = x + 31) rfl).trans (Ex.sI (P := fun z => z = x + 31) rfl)).trans (Ex.sI (P := fun z => z = x + 31) rfl)
  have f1 : hI (sI (sI (sI g0 (x + 31) 12 w1) (x + 31) 13 w2) (x + 31) 11 0) (x + 31) = va_up (va_up (va_up (hI g0 (x + 31)) 12 w1) 13 w2) 11 0 := by rw [hI_sI_eq, hI_sI_eq, hI_sI_eq]
  rw [ck_p sp2'.1, bd_e, ck_p k1.1, bd_e, ck_p k2.1, bd_e]
  generalize sI (sI (sI g0 (x + 31) 12 w1) (x + 31) 13 w2) (x + 31) 11 0 = g1 at E1 f1 ⊢
  have sb1 := sb0.own hv E1 (fun z hz => by omega)
  obtain ⟨g2, a1, a2, a3⟩ := c_fill hB (show 4 ≤ 2000 by decide) ⟨pK_houses sb1.1, pN_houses sb1.1⟩ (-1 : Int32)
  have sb2 := sb1.own hv a2 (fun z hz => by omega)
  obtain ⟨g3, b1, b2, b3⟩ := c_fill hB (show 4 ≤ 2000 by decide) ⟨pK_row sb2.1, pN_row sb2.1⟩ (-1 : Int32)
  have sb3 := sb2.own hv b2 (fun z hz => by omega)
  rw [ck_p sb1.1.1, pR_houses sb1.1, rq_s, a1, cl_s, ck_p sb2.1.1, pR_row sb2.1, rq_s, b1, cl_s]
  have EE : Ex (skP x v) g0 g3 := ((E1.mono (fun z hz => by unfold skP; omega)).trans (a2.mono (fun z hz => by unfold skP; omega))).trans (b2.mono (fun z hz => by unfold skP; omega))
  refine ⟨g3, rfl, (kA.mono (fun _ _ => trivial)).trans (EE.kx (fun z hz q => hz q)), sb3, fun p hp => ?_, ?_, fun p hp => ?_, hZ2.eq (fun z hz => ?_)⟩
  · rw [b2.2.2.2 _ (by omega), a3 p hp, if_neg (show ¬ p < rkX (aHs A f) 0 from Nat.not_lt_zero p)]
  · rw [b2.2.2.2 _ (by omega), a2.2.2.2 _ (by omega), f1]
    refine ⟨by rw [va_eq]; exact n0.symm, ?_, ?_⟩
    · rw [va_ne (by decide), va_ne (by decide), va_eq]
    · rw [va_ne (by decide), va_eq]
  · rw [b3 p hp]
    unfold cP
    by_cases a : hP (aHs A f) p = 4
    · rw [if_pos a]; rfl
    · rw [if_neg a]; rfl
  · rw [b2.2.2.2 _ (by omega), a2.2.2.2 _ (by omega), E1.2.2.2 _ (by omega)]
theorem c_find (hN : 5000 ≤ N) (hv : x + 43 ≤ v) (hf : f < 1000) (hT : WS A J S) (hH : tH S < 2 ^ 30) {h : PH} (sp : SP h (x + 31)) (hz' : v + 18 ≤ hz h) (pv : VA h v A) (hS : ST h (x + 3 + 1)) (hC : CS h (x + 3 + 1) S) (hZ : Z11 h x) : ∃ h', f_X3_find N (x + 31) v (x + 3 + 1) (nI f) w1 w2 h = some (if (spL A S f w1 w2 (ws (noF A S f) (al A S) 4 0 u5) (9, u5)).1 = 9 then 0 else 1, h') ∧ Kx x (fun z => ¬ skP x v z) h h' ∧ SVq A S x v f w1 w2 (spL A S f w1 w2 (ws (noF A S f) (al A S) 4 0 u5) (9, u5)) h' ∧ Z11 h' x := by
  have hW := pv.2.2.1
  have n0 : nI 0 = (0 : Int32) := by decide
  obtain ⟨g, r1, r2, r3⟩ := c_find0 (N := N) (f := f) (w1 := w1) (w2 := w2) (by omega) hv sp hz' pv hS hC hZ
  obtain ⟨h', t1, t2, t3, t4⟩ := c_find46 (N := N) (by omega) hv hf hT hH N 0 g (by have := hW.1.2.2.1; omega) (by omega) r3
  rw [n0] at t1
  rw [r1]
  exact ⟨h', t1, r2.trans (t2.kx (fun z hz => hz)), t3, t4⟩
/-- what a house lights first -/
theorem c_fo2 {h : PH} {st : Nat × (Nat → Nat)} (sv : SVq A S x v f w1 w2 st h) (h9 : st.1 ≠ 9) {i : Nat} (hi : i < 4) : ∀ (m j n : Nat), m + j = 4 → m < n → f_X3_firstOf_2 N n (x + 31) (nI i) (nI (rkX (aHs A f) j)) h = some (if j ≤ i ∧ (aHs A f).testBit i = true then cm (st.2 i) else -1, h)
  | 0, j, n, hm, hn => by
    have ej : j = 4 := by omega
    subst ej
    obtain ⟨n', rfl⟩ : ∃ n', n = n' + 1 := ⟨n - 1, by omega⟩
    have r44 := rkX_le (aHs A f) 4
    show f_X3_firstOf_2_b N (f_X3_firstOf_2 N n') (x + 31) _ _ h = _
    unfold f_X3_firstOf_2_b
    rw [ck_p sv.1.1.1, sv.2.2.1.1, if_pos (nI_le (Nat.le_refl _) (by omega)), if_neg (by omega)]
  | m + 1, j, n, hm, hn => by
    by_cases tj : (aHs A f).testBit j = true
    · obtain ⟨n', rfl⟩ : ∃ n', n = n' + 1 := ⟨n - 1, by omega⟩
      have hV := aHs_lt sv.1.2.2.1.2.2.1 f
      have r44 := rkX_le (aHs A f) 4
      have r4j := rkX_lt (show j < 4 by omega) tj
      have jr : inb (nI (rkX (aHs A f) j)) 4 := nI_ix (by omega) (by decide)
      have xr : ix (nI (rkX (aHs A f) j)) = rkX (aHs A f) j := ix_nI (by omega)
      have sp := sv.1.1
      have hsj := sv.2.1 (rkX (aHs A f) j) (by omega)
      rw [hP_r _ hV j (by omega) tj, show hsI j = nI j from if_neg (by omega)] at hsj
      have bj := sv.2.2.2.1 h9 (rkX (aHs A f) j) (by omega)
      rw [cP_j hV (by omega) tj] at bj
      show f_X3_firstOf_2_b N (f_X3_firstOf_2 N n') (x + 31) _ _ h = _
      unfold f_X3_firstOf_2_b
      rw [ck_p sp.1, sv.2.2.1.1, if_neg (show ¬ nI (rkX (aHs A f) 4) ≤ nI (rkX (aHs A f) j) by rw [nI_leI (by omega) (by omega)]; omega), pR_houses sp, rq_s, ck_p (pK_houses sp), pN_houses sp, ck_p jr, xr, hsj, ite_i (nI_eq (by omega) (by omega))]
      by_cases e : j = i
      · rw [if_pos e, pR_best sp, rq_s, ck_p (pK_best sp), pN_best sp, ck_p jr, bj, if_pos ⟨by omega, by rw [← e]; exact tj⟩, e]
      · rw [if_neg e, bd_e, nI_1, ← rkX_s tj, c_fo2 sv h9 hi m (j + 1) n' (by omega) (by omega)]
        rw [ite_i (show (j + 1 ≤ i ∧ (aHs A f).testBit i = true) ↔ (j ≤ i ∧ (aHs A f).testBit i = true) from ⟨fun y => ⟨by omega, y.2⟩, fun y => ⟨by omega, y.2⟩⟩)]
    · rw [← rkX_n tj, c_fo2 sv h9 hi m (j + 1) n (by omega) (by omega)]
      rw [ite_i (show (j + 1 ≤ i ∧ (aHs A f).testBit i = true) ↔ (j ≤ i ∧ (aHs A f).testBit i = true) from ⟨fun y => ⟨by omega, y.2⟩, fun y => ⟨by
        by_cases q : j = i
        · rw [q] at tj; exact absurd y.2 tj
        · omega, y.2⟩⟩)]
theorem sOr2 {c : Int32} {n : Nat} (h : n ≤ 1000) : (¬ c < (-2 : Int32) ∧ ¬ (nI n - (1 : Int32)) < c) ↔ (c = -2 ∨ (c = -1 ∨ (¬ c < 0 ∧ ¬ nI n ≤ c))) := by
  rw [fa_lt, fa_lt, fa_lt, fa_le, fa_eq, fa_eq, nI_m1 h, nI_toInt (by omega), show (-1 : Int32).toInt = -1 by decide, show (-2 : Int32).toInt = -2 by decide, show (0 : Int32).toInt = 0 by decide]
  omega
end SPG1
section SPH1
variable {N x y o J : Nat}
theorem d_spell (hN2 : 5000 ≤ N) (hJ5 : J < 512) : D_spell (INV N x y o J) (INV N x y o (J + 1)) N x y := by
  intro a b c d h ⟨v, w, A, M, pn, pc, P, lb, K, tn, tb, q⟩
  obtain ⟨p0, ob, pv, pm, pnm, ⟨cM, rS, rD, rR, wM⟩, pP, pK, pT⟩ := id q
  have y0 := p0.1
  have vw := ob.1
  have hW := pv.2.2.1
  have h3 := hW.1.2.1
  have h4 := hW.1.2.2.1
  have h6 := hW.1.2.2.2.1
  have q2 := q.thr 0
  obtain ⟨-, -, -, pm2, -, ⟨-, rS2, -, -, wM2⟩, -⟩ := id q2
  have m2 := pm2.1
  have no : f_X10_spell N x a b c d h = some (-2, h) → f_X11_spell N y a b c d h = some (-2, sI h y 0 0) → wp (f_X10_spell N x a b c d h) (fun r h1 => hK h1 y = 10 ∧ wp (f_X11_spell N y a b c d h1) (fun r2 h2 => r = r2 ∧ INV N x y o (J + 1) h2)) := fun e1 e2 => wp2 e1 pm.1.1 e2 q2.inv
  have sn := sOrN (c := b) (n := aC A 3) (by omega)
  have sn2 := sOr2 (c := c) (n := aC A 3) (by omega)
  by_cases c1 : ¬ a < 0 ∧ ¬ nI (aC A 1) ≤ a
  rotate_left
  · refine no ?_ ?_
    · unfold f_X10_spell
      rw [ck_p ob.k9, ob.R8, rq_s, ck_p pv.1.1, c_has1 pv, cl_s, yesF c1, if_pos rfl]
    · unfold f_X11_spell
      rw [ck_p pm.1.1, bd_e, ck_p m2.1, m_isFlue m2 pm2.2.1, cl_s, yesF c1, if_pos rfl]
  by_cases c2 : b = -1 ∨ (¬ b < 0 ∧ ¬ nI (aC A 3) ≤ b)
  rotate_left
  · refine no ?_ ?_
    · unfold f_X10_spell
      rw [ck_p ob.k9, ob.R8, rq_s, ck_p pv.1.1, c_has1 pv, cl_s, yesT c1, if_neg one0, ck_p ob.k9, c_sOrN ob pv, cl_s, yesF c2, if_pos rfl]
    · unfold f_X11_spell
      rw [ck_p pm.1.1, bd_e, ck_p m2.1, m_isFlue m2 pm2.2.1, cl_s, yesT c1, if_neg one0, ck_p m2.1, mR_valley m2, rq_s, ck_p (mK_valley m2), mN_valley m2, ck_p (by decide), pm2.2.1.1 3 (by decide), m_within, cl_s, yesF (fun z => c2 (sn.mp z)), if_pos rfl]
  by_cases c3 : c = -2 ∨ (c = -1 ∨ (¬ c < 0 ∧ ¬ nI (aC A 3) ≤ c))
  rotate_left
  · refine no ?_ ?_
    · unfold f_X10_spell
      rw [ck_p ob.k9, ob.R8, rq_s, ck_p pv.1.1, c_has1 pv, cl_s, yesT c1, if_neg one0, ck_p ob.k9, c_sOrN ob pv, cl_s, yesT c2, if_neg one0, if_neg (fun z => c3 (Or.inl z)), ck_p ob.k9, c_sOrN ob pv, cl_s, yesF (fun z => c3 (Or.inr z)), if_pos rfl]
    · unfold f_X11_spell
      rw [ck_p pm.1.1, bd_e, ck_p m2.1, m_isFlue m2 pm2.2.1, cl_s, yesT c1, if_neg one0, ck_p m2.1, mR_valley m2, rq_s, ck_p (mK_valley m2), mN_valley m2, ck_p (by decide), pm2.2.1.1 3 (by decide), m_within, cl_s, yesT (sn.mpr c2), if_neg one0, ck_p m2.1, mR_valley m2, rq_s, ck_p (mK_valley m2), mN_valley m2, ck_p (by decide), pm2.2.1.1 3 (by decide), m_within, cl_s, yesF (fun z => c3 (sn2.mp z)), if_pos rfl]
  -- both go to the last question
  have hcls : f_X10_spell N x a b c d h = f_X10_spell_40 N x a b c d h := by
    unfold f_X10_spell
    rw [ck_p ob.k9, ob.R8, rq_s, ck_p pv.1.1, c_has1 pv, cl_s, yesT c1, if_neg one0, ck_p ob.k9, c_sOrN ob pv, cl_s, yesT c2, if_neg one0]
    by_cases e : c = -2
    · rw [if_pos e]
    · rw [if_neg e, ck_p ob.k9, c_sOrN ob pv, cl_s, yesT (c3.resolve_left e), if_neg one0]
  by_cases c4 : d = -1 ∨ (¬ d < 0 ∧ ¬ nI (aC A 2) ≤ d)
  rotate_left
  · refine no ?_ ?_
    · rw [hcls]
      unfold f_X10_spell_40
      rw [if_neg (fun z => c4 (Or.inl z)), ck_p ob.k9, ob.R8, rq_s, ck_p pv.1.1, c_has2 pv, cl_s, yesF (fun z => c4 (Or.inr z)), if_pos rfl]
    · unfold f_X11_spell
      rw [ck_p pm.1.1, bd_e, ck_p m2.1, m_isFlue m2 pm2.2.1, cl_s, yesT c1, if_neg one0, ck_p m2.1, mR_valley m2, rq_s, ck_p (mK_valley m2), mN_valley m2, ck_p (by decide), pm2.2.1.1 3 (by decide), m_within, cl_s, yesT (sn.mpr c2), if_neg one0, ck_p m2.1, mR_valley m2, rq_s, ck_p (mK_valley m2), mN_valley m2, ck_p (by decide), pm2.2.1.1 3 (by decide), m_within, cl_s, yesT (sn2.mpr c3), if_neg one0, if_neg (fun z => c4 (Or.inl z)), ck_p m2.1, m_isHouse m2 pm2.2.1, cl_s, yesF (fun z => c4 (Or.inr z)), if_pos rfl]
  have s1 := sCase (by omega) c2
  have s2 : c = -2 ∨ (c = -1 ∨ ∃ k, k < aC A 3 ∧ c = nI k) := by
    rcases c3 with e | e
    · exact Or.inl e
    · exact Or.inr (sCase (by omega) e)
  have s4 := sCase (by omega) c4
  obtain ⟨f, hf, rfl⟩ := told (by omega) c1
  obtain ⟨h1, r1, k1, sv1, fz1⟩ := c_find (N := N) (f := f) (w1 := b) (w2 := c) hN2 (show x + 43 ≤ v by omega) (by omega) wM.1 (by have := wM.1.1; omega) ob.sp (by have := ob.2.1; omega) pv ob.st cM.1 p0.2.2.2.2.2.2.2
  have l9 := spL_le (A := A) (S := M.1) (f := f) (w1 := b) (w2 := c) (ws (noF A M.1 f) (al A M.1) 4 0 u5) (9, u5)
  have so := fun i hi => spL_out (A := A) (S := M.1) (f := f) (w1 := b) (w2 := c) (i := i) hi
  have ob1 := ob.shp k1.1
  have qk : INVq N x y o J h1 v w A M pn pc P lb K tn tb := q.keep0 (k1.mono (fun z hz => by unfold Kp at hz; unfold skP; omega)) fz1 sv1.1.2.2.1 (by rw [(k1.2 (v + 2) (by unfold skP; omega)).2]) (by rw [(k1.2 y (by unfold skP; omega)).1]) (by rw [(k1.2 y (by unfold skP; omega)).1])
  have q3 := qk.thr 0
  obtain ⟨-, -, -, pm1, -⟩ := id qk
  obtain ⟨-, -, pv3, pm3, -, ⟨-, rS3, -⟩, pP3, -, pT3⟩ := id q3
  have m3 := pm3.1
  have wh : d = -1 ∨ ∃ i, i < 4 ∧ d = nI i := by
    rcases s4 with e | ⟨i, hi, e⟩
    · exact Or.inl e
    · exact Or.inr ⟨i, by omega, e⟩
  obtain ⟨h2, t1, t2, t3, t4⟩ := m_sp64 (N := N) (who := d) hN2 wM.1 (by omega) (f := f) (w1 := b) (w2 := c) (by omega) wh pm3 rS3
  have fin : INV N x y o (J + 1) h2 := by
    refine (q3.keep2 (t2.kx (Q := Kp2 x y) (fun z hz => ?_)) (pv3.ex t2 (fun z z1 z2 z3 => ?_)) (by rw [t2.2.2.1]) (t4 1 (by decide) (by decide)) (t4 54 (by decide) (by decide)) t3).inv
    · unfold Kp2 at hz
      unfold spQ spP inP inM
      omega
    · unfold spQ spP inP inM at z3
      omega
  generalize spL A M.1 f b c (ws (noF A M.1 f) (al A M.1) 4 0 u5) (9, u5) = st at r1 sv1 l9 so t1
  have l9 : st.1 ≤ 9 := l9
  refine wp2 (r := spR st d) (h1 := h1) ?_ pm1.1.1 ?_ fin
  · have c62 : f_X10_spell_62 N x (nI f) b c d h = some (spR st d, h1) := by
      unfold f_X10_spell_62 spR
      rw [ck_p ob.k9, ob.R7, rq_s, ob.R8, rq_s, ob.R1, rq_s, ck_p ob.mt.1, ob.mt.2.1.1, rq_s, ck_p ob.sp.1, r1, cl_s]
      by_cases e9 : st.1 = 9
      · rw [if_pos e9, if_pos rfl, if_pos e9]
      · rw [if_neg e9, if_neg one0, if_neg e9]
        rcases s4 with e | ⟨i, hi, rfl⟩
        · rw [if_pos e, if_pos e, ck_p ob1.k9, ob1.R7, rq_s, ck_p ob1.sp.1, sv1.2.2.1.2.2.2]
        · have fo := c_fo2 (N := N) sv1 e9 (i := i) (by omega) 4 0 N rfl (by omega)
          have fo : f_X3_firstOf_2 N N (x + 31) (nI i) 0 h1 = _ := fo
          unfold f_X3_firstOf
          rw [if_neg (ni1 (by omega)), if_neg (ni1 (by omega)), ck_p ob1.k9, ob1.R7, rq_s, ck_p ob1.sp.1, fo, cl_s, ix_nI (by omega)]
          by_cases tb : (aHs A f).testBit i = true
          · rw [if_pos ⟨Nat.zero_le _, tb⟩]
            rfl
          · rw [if_neg (fun z => tb z.2), if_pos (so i tb)]
    rw [hcls]
    unfold f_X10_spell_40
    by_cases e : d = -1
    · rw [if_pos e]; exact c62
    · rw [if_neg e, ck_p ob.k9, ob.R8, rq_s, ck_p pv.1.1, c_has2 pv, cl_s, yesT (c4.resolve_left e), if_neg one0]
      exact c62
  · unfold f_X11_spell
    rw [ck_p pm1.1.1, bd_e, ck_p m3.1, m_isFlue m3 pm3.2.1, cl_s, yesT c1, if_neg one0, ck_p m3.1, mR_valley m3, rq_s, ck_p (mK_valley m3), mN_valley m3, ck_p (by decide), pm3.2.1.1 3 (by decide), m_within, cl_s, yesT (sn.mpr c2), if_neg one0, ck_p m3.1, mR_valley m3, rq_s, ck_p (mK_valley m3), mN_valley m3, ck_p (by decide), pm3.2.1.1 3 (by decide), m_within, cl_s, yesT (sn2.mpr c3), if_neg one0]
    by_cases e : d = -1
    · rw [if_pos e]; exact t1
    · rw [if_neg e, ck_p m3.1, m_isHouse m3 pm3.2.1, cl_s, yesT (c4.resolve_left e), if_neg one0]
      exact t1
end SPH1
