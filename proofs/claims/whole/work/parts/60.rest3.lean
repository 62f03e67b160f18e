/-! The duty of rests, the reference's side. -/
section RG
variable {N x y o J : Nat} {A : AV} {S : AS}
theorem m_getsBy (hN2 : 2000 ≤ N) (hT : WS A J S) (hJ5 : J < 2 ^ 30) {i s : Nat} {z : Int32} (hi : i < aC A 2) {u : Nat → Nat} (ok : okU A u) {h : PH} (p : MA N h y A) (rS : RS (hI h (y + 37)) 0 S) (hw : WY h y u) : ∃ h', f_X11_getsBy N y (nI i) (nI s) z h = some (gn A S i s z u, h') ∧ Ex (inM y) h h' := by
  have m := p.1
  have hWV := p.2.2.1
  have h5 := hWV.1.1
  have h3 := hWV.1.2.1
  have h4 := hWV.1.2.2.1
  have fl := hWV.2.2.1 i hi
  have oi := ok i (by omega)
  obtain ⟨g, r1, r2⟩ := m_signBy (N := N) (by omega) hT hJ5 ok (f := aF A i) (by omega) p rS hw
  have p1 := p.ex r2 (fun z z1 z2 z3 => by unfold inM at z3; omega)
  have w1 : WY g y u := hw.ex r2 (by unfold inM; omega)
  have e19 : ∀ c : Int32, f_X11_getsBy_19 N c y (nI i) g = some (c - (if 5 ≤ u i then 0 else 1), g) := fun c => by
    unfold f_X11_getsBy_19 f_X11_getsBy_34
    rw [ck_p p1.1.1, mR_way p1.1, rq_s, ck_p (mK_way p1.1), mN_way p1.1, ck_p (nI_ix (by omega) (by decide)), ix_nI (by omega), w1 i (by omega), ite_i (show (5 : Int32) ≤ nI (u i) ↔ 5 ≤ u i from nI_leI (a := 5) (by decide) (by omega))]
    by_cases e : 5 ≤ u i
    · rw [if_pos e, if_pos e]
    · rw [if_neg e, if_neg e]
  refine ⟨g, ?_, r2⟩
  unfold f_X11_getsBy gn
  rw [ck_p m.1, mR_houseAt m, rq_s, ck_p (mK_houseAt m), mN_houseAt m, ck_p (nI_ix (by omega) (by decide)), ix_nI (by omega), p.2.1.2.2.1 i hi, r1, cl_s]
  by_cases c : sbs A S u (aF A i) = nI s
  · rw [if_pos c, if_pos c, e19]
  · rw [if_neg c, if_neg c, e19]
def rsP (y z : Nat) : Prop := z = y + 42 ∨ inM y z
theorem m_ic80 {h : PH} (m : MD h y) {u : Nat → Nat} {i cc : Nat} {b : Bool} (hi : i < 4) (hw : WY h y (va_up u i cc)) : ∃ h', f_X11_isContent_80 N y (nI i) (nI (u i)) (yb b) h = some (yb b, h') ∧ Ex (rsP y) h h' ∧ WY h' y u := by
  refine ⟨sI h (y + 42) i (nI (u i)), ?_, Ex.sI (Or.inl rfl), fun j hj => ?_⟩
  · unfold f_X11_isContent_80
    rw [ck_p m.1, mR_way m, rq_s, ck_p (mK_way m), mN_way m, ck_p (nI_ix (by omega) (by decide)), ix_nI (by omega), bd_e, ck_p yb_g]
  · rw [hI_sI_eq]
    by_cases c : j = i
    · rw [c, va_eq]
    · rw [va_ne c]
      have := hw j hj
      rw [va_ne c] at this
      exact this
theorem m_ic23 (hN2 : 2000 ≤ N) (hT : WS A J S) (hJ5 : J < 2 ^ 30) {i s : Nat} {z : Int32} (hi : i < aC A 2) {u : Nat → Nat} (ok : okU A u) : ∀ (n p cc : Nat) (h : PH), 7 < n + p → p ≤ 6 → MA N h y A → RS (hI h (y + 37)) 0 S → WY h y (va_up u i cc) → (∀ p', p' < p → okB A S i s z u p' = true) → ∃ h', f_X11_isContent_23 N n y (nI i) (nI s) z (nI (u i)) (gn A S i s z u) 1 (nI p) h = some (yb (okG A S i s z u), h') ∧ Ex (rsP y) h h' ∧ WY h' y u
  | 0, p, cc, h, h1, h2, _, _, _, _ => by omega
  | n + 1, p, cc, h, h1, h2, pm, rS, hw, hok => by
    have m := pm.1
    have hWV := pm.2.2.1
    have h5 := hWV.1.1
    have h4 := hWV.1.2.2.1
    show ∃ h', f_X11_isContent_23_b N (f_X11_isContent_23 N n) y _ _ _ _ _ _ _ h = _ ∧ _
    unfold f_X11_isContent_23_b
    rw [ite_i (show (5 : Int32) < nI p ↔ 5 < p from nI_ltI (a := 5) (by decide) (by omega))]
    by_cases c : 5 < p
    · have : okG A S i s z u = true := by
        unfold okG
        rw [allB_iff]
        exact fun p' hp' => hok p' (by omega)
      rw [if_pos c, this]
      exact m_ic80 (b := true) m (by omega) hw
    · have next : ∀ (cc' : Nat) (g : PH), Ex (rsP y) h g → MA N g y A → RS (hI g (y + 37)) 0 S → WY g y (va_up u i cc') → okB A S i s z u p = true → ∃ h', f_X11_isContent_74 N (f_X11_isContent_23 N n) y (nI i) (nI s) z (nI (u i)) (gn A S i s z u) 1 (nI p) g = some (yb (okG A S i s z u), h') ∧ Ex (rsP y) h h' ∧ WY h' y u := fun cc' g xg pg rg wg o1 => by
        obtain ⟨h', t1, t2, t3⟩ := m_ic23 hN2 hT hJ5 hi ok n (p + 1) cc' g (by omega) (by omega) pg rg wg (fun p' hp' => by
          by_cases q : p' = p
          · rw [q]; exact o1
          · exact hok p' (by omega))
        refine ⟨h', ?_, xg.trans t2, t3⟩
        unfold f_X11_isContent_74
        rw [bd_e, nI_1]
        exact t1
      rw [if_neg c, if_neg one0, ck_p m.1, m_mayBurn m pm.2.1 hWV rS hT (by omega) (by omega), cl_s, ite_i yb0]
      by_cases q : al A S i p = true
      · have op : p = 5 ∨ p < aC A 0 := by
          unfold al at q
          simp at q
          omega
        have ok' : okU A (va_up u i p) := fun j hj => by
          by_cases e : j = i
          · rw [e, va_eq]; exact op
          · rw [va_ne e]; exact ok j hj
        have E1 : Ex (rsP y) h (sI h (y + 42) i (nI p)) := Ex.sI (Or.inl rfl)
        have w1 : WY (sI h (y + 42) i (nI p)) y (va_up u i p) := fun j hj => by
          rw [hI_sI_eq]
          by_cases e : j = i
          · rw [e, va_eq, va_eq]
          · have := hw j hj
            rw [va_ne e] at this
            rw [va_ne e, va_ne e]
            exact this
        rw [if_neg (by rw [q]; decide), ck_p m.1, mR_way m, rq_s, ck_p (mK_way m), mN_way m, ck_p (nI_ix (by omega) (by decide)), ix_nI (by omega), bd_e]
        generalize sI h (y + 42) i (nI p) = g1 at E1 w1
        have p1 := pm.ex E1 (fun z z1 z2 z3 => by unfold rsP inM at z3; omega)
        have rS1 := rS.ex E1 (by unfold rsP inM; omega)
        obtain ⟨g2, r1, r2⟩ := m_getsBy (N := N) (s := s) (z := z) hN2 hT hJ5 hi ok' p1 rS1 w1
        have E2 : Ex (rsP y) h g2 := E1.trans (Ex.mono (Q := rsP y) r2 (fun z hz => Or.inr hz))
        have p2 := p1.ex r2 (fun z z1 z2 z3 => by unfold inM at z3; omega)
        have w2' : WY g2 y (va_up u i p) := w1.ex r2 (by unfold inM; omega)
        rw [ck_p p1.1.1, r1, cl_s]
        by_cases lt : gn A S i s z u < gn A S i s z (va_up u i p)
        · have : okG A S i s z u = false := by
            cases e : okG A S i s z u
            · rfl
            · have := allB_iff.mp e p (by omega)
              unfold okB at this
              simp [q, lt] at this
          obtain ⟨n, rfl⟩ : ∃ k, n = k + 1 := ⟨n - 1, by omega⟩
          obtain ⟨h', t1, t2, t3⟩ := m_ic80 (N := N) (b := false) p2.1 (show i < 4 by omega) w2'
          rw [if_pos lt, this]
          refine ⟨h', ?_, E2.trans t2, t3⟩
          unfold f_X11_isContent_72 f_X11_isContent_74
          rw [bd_e, nI_1]
          show f_X11_isContent_23_b N (f_X11_isContent_23 N n) y _ _ _ _ _ _ _ g2 = _
          unfold f_X11_isContent_23_b
          by_cases e6 : (5 : Int32) < nI (p + 1)
          · rw [if_pos e6]; exact t1
          · rw [if_neg e6, if_pos rfl]; exact t1
        · rw [if_neg lt]
          unfold f_X11_isContent_72
          exact next p g2 E2 p2 (rS1.ex r2 (by unfold inM; omega)) w2' (by unfold okB; simp [lt])
      · have q : al A S i p = false := by simpa using q
        rw [if_pos q]
        exact next cc h Ex.rf pm rS hw (by unfold okB; rw [q]; rfl)
theorem m_isContent (hN2 : 2000 ≤ N) (hT : WS A J S) (hJ5 : J < 2 ^ 30) {i s : Nat} {z : Int32} (hi : i < aC A 2) {u : Nat → Nat} (ok : okU A u) {h : PH} (p : MA N h y A) (rS : RS (hI h (y + 37)) 0 S) (hw : WY h y u) : ∃ h', f_X11_isContent N y (nI i) (nI s) z h = some (yb (okG A S i s z u), h') ∧ Ex (rsP y) h h' ∧ WY h' y u := by
  have m := p.1
  have h4 := p.2.2.1.1.2.2.1
  obtain ⟨g, r1, r2⟩ := m_getsBy (N := N) (s := s) (z := z) hN2 hT hJ5 hi ok p rS hw
  have w1 : WY g y (va_up u i (u i)) := fun j hj => by
    have := hw.ex r2 (by unfold inM; omega) j hj
    by_cases e : j = i
    · rw [e, va_eq]; rw [e] at this; exact this
    · rw [va_ne e]; exact this
  obtain ⟨h', t1, t2, t3⟩ := m_ic23 (N := N) (y := y) (s := s) (z := z) hN2 hT hJ5 hi ok N 0 (u i) g (by omega) (by omega) (p.ex r2 (fun z z1 z2 z3 => by unfold inM at z3; omega)) (rS.ex r2 (by unfold inM; omega)) w1 (fun p' hp' => absurd hp' (Nat.not_lt_zero _))
  refine ⟨h', ?_, (Ex.mono (Q := rsP y) r2 (fun z hz => Or.inr hz)).trans t2, t3⟩
  unfold f_X11_isContent
  rw [ck_p m.1, mR_way m, rq_s, ck_p (mK_way m), mN_way m, ck_p (nI_ix (by omega) (by decide)), ix_nI (by omega), hw i (by omega), bd_e, r1, cl_s]
  exact t1
theorem dv6 : ∀ m, m < 36 → (nI m / (6 : Int32) = nI (m / 6) ∧ nI m - nI (m / 6) * (6 : Int32) = nI (m % 6)) := by decide +kernel
theorem m_min5 (h5 : aC A 0 ≤ 5) {p : Nat} (hp : p = 5 ∨ p < aC A 0) : (if nI (aC A 0) < nI p then nI (aC A 0) else nI p) = nI (cu A p) := by
  rw [ite_i (nI_ltI (by omega) (by omega))]
  unfold cu
  by_cases e : p = 5
  · rw [e, if_pos rfl]
    by_cases l5 : aC A 0 < 5
    · rw [if_pos l5]
    · rw [if_neg l5, show aC A 0 = 5 by omega]
  · rw [if_neg e, if_neg (by omega)]
theorem m_r115 (hN2 : 2000 ≤ N) (hT : WS A J S) (hJ5 : J < 2 ^ 30) {i k s t : Nat} {z want : Int32} (hi : i < aC A 2) (hk : k < aC A 2) (ne : i ≠ k) : ∀ (n m a b : Nat) (c : Int32) (h : PH), 36 < n + m → m ≤ 36 → MA N h y A → RS (hI h (y + 37)) 0 S → WY h y (w2 i k a b) → hI h y 0 = 0 → ∃ h', f_X11_rests_115 N n y (nI i) (nI k) (nI s) (nI t) z want c (nI m) h = some ((rR A (ctB A S i k s t z) want (36 - m) m c).getD 0, h') ∧ Ex (hpP y) h h' ∧ hI h' y 0 = (if rR A (ctB A S i k s t z) want (36 - m) m c = none then 1 else 0) ∧ ∀ j, j ≠ 0 → hI h' y j = hI h y j
  | 0, m, a, b, c, h, h1, h2, _, _, _, _ => by omega
  | n + 1, m, a, b, c, h, h1, h2, pm, rS, hw, ey => by
    have md := pm.1
    have hWV := pm.2.2.1
    have h5 := hWV.1.1
    have h4 := hWV.1.2.2.1
    show ∃ h', f_X11_rests_115_b N (f_X11_rests_115 N n) y _ _ _ _ _ _ _ _ h = _ ∧ _
    unfold f_X11_rests_115_b
    rw [ite_i (show (36 : Int32) ≤ nI m ↔ 36 ≤ m from nI_leI (a := 36) (by decide) (by omega))]
    by_cases c36 : 36 ≤ m
    · have e0 : rR A (ctB A S i k s t z) want (36 - m) m c = if want = -1 then some c else none := by
        rw [show 36 - m = 0 by omega]
        rfl
      have fin : ∀ v : Int32, hI (sI h y 0 v) y 0 = v ∧ (∀ j, j ≠ 0 → hI (sI h y 0 v) y j = hI h y j) ∧ Ex (hpP y) h (sI h y 0 v) := fun v => ⟨by rw [hI_sI_eq, va_eq], fun j hj => by rw [hI_sI_eq, va_ne hj], Ex.sI (Or.inl rfl)⟩
      rw [if_pos c36, e0]
      by_cases w1 : want = -1
      · obtain ⟨f1, f2, f3⟩ := fin 0
        refine ⟨sI h y 0 0, ?_, f3, by rw [f1, if_pos w1]; rfl, f2⟩
        unfold f_X11_rests_260
        rw [if_pos w1, ck_p md.1, bd_e, if_pos w1, if_pos w1]
        rfl
      · obtain ⟨f1, f2, f3⟩ := fin 1
        refine ⟨sI h y 0 1, ?_, f3, by rw [f1, if_neg w1]; rfl, f2⟩
        unfold f_X11_rests_260
        rw [if_neg w1, ck_p md.1, bd_e, if_neg w1, if_neg w1]
        rfl
    · obtain ⟨d1, d2⟩ := dv6 m (by omega)
      have p6 : m / 6 ≤ 5 := by omega
      have q6 : m % 6 ≤ 5 := by omega
      -- behind one pair
      have next : ∀ (a' b' : Nat) (c' : Int32) (g : PH), Ex (hpP y) h g → (∀ j, hI g y j = hI h y j) → MA N g y A → RS (hI g (y + 37)) 0 S → WY g y (w2 i k a' b') → ∃ h', f_X11_rests_242 N (f_X11_rests_115 N n) y (nI i) (nI k) (nI s) (nI t) z want c' (nI m) g = some ((rR A (ctB A S i k s t z) want (36 - (m + 1)) (m + 1) c').getD 0, h') ∧ Ex (hpP y) h h' ∧ hI h' y 0 = (if rR A (ctB A S i k s t z) want (36 - (m + 1)) (m + 1) c' = none then 1 else 0) ∧ ∀ j, j ≠ 0 → hI h' y j = hI h y j := fun a' b' c' g xg yg pg rg wg => by
        obtain ⟨h', t1, t2, t3, t4⟩ := m_r115 hN2 hT hJ5 hi hk ne n (m + 1) a' b' c' g (by omega) (by omega) pg rg wg (by rw [yg]; exact ey)
        refine ⟨h', ?_, xg.trans t2, t3, fun j hj => (t4 j hj).trans (yg j)⟩
        unfold f_X11_rests_242
        rw [bd_e, nI_1]
        exact t1
      have st : rR A (ctB A S i k s t z) want (36 - m) m c = if ctB A S i k s t z (m / 6) (m % 6) = true then (if c = want then some (nI (10 * cu A (m / 6) + cu A (m % 6))) else rR A (ctB A S i k s t z) want (36 - (m + 1)) (m + 1) (c + 1)) else rR A (ctB A S i k s t z) want (36 - (m + 1)) (m + 1) c := by
        rw [show 36 - m = (36 - (m + 1)) + 1 by omega]
        rfl
      rw [st, if_neg c36, d1, d2, ck_p md.1, m_mayBurn md pm.2.1 hWV rS hT (by omega) p6, cl_s, ite_i yb0]
      by_cases qa : al A S i (m / 6) = true
      rotate_left
      · have qa : al A S i (m / 6) = false := by simpa using qa
        have ct : ctB A S i k s t z (m / 6) (m % 6) = false := by unfold ctB; rw [qa]; rfl
        rw [if_pos qa, if_neg (by rw [ct]; decide)]
        exact next a b c h Ex.rf (fun _ => rfl) pm rS hw
      rw [if_neg (by rw [qa]; decide), ck_p md.1, m_mayBurn md pm.2.1 hWV rS hT (by omega) q6, cl_s, ite_i yb0]
      by_cases qb : al A S k (m % 6) = true
      rotate_left
      · have qb : al A S k (m % 6) = false := by simpa using qb
        have ct : ctB A S i k s t z (m / 6) (m % 6) = false := by unfold ctB; rw [qb, Bool.false_and, Bool.and_false]
        rw [if_pos qb, if_neg (by rw [ct]; decide)]
        exact next a b c h Ex.rf (fun _ => rfl) pm rS hw
      have opA : m / 6 = 5 ∨ m / 6 < aC A 0 := by unfold al at qa; simp at qa; omega
      have opB : m % 6 = 5 ∨ m % 6 < aC A 0 := by unfold al at qb; simp at qb; omega
      have pr : PR A i k (w2 i k (m / 6) (m % 6)) := PR.w2 opA opB
      have m1 : MD (sI h (y + 42) i (nI (m / 6))) y := md.sm Sm.sI
      have E1 : Ex (hpP y) h (sI (sI h (y + 42) i (nI (m / 6))) (y + 42) k (nI (m % 6))) := (Ex.sI (P := hpP y) (Or.inr (Or.inl rfl))).trans (Ex.sI (P := hpP y) (Or.inr (Or.inl rfl)))
      have w1 : WY (sI (sI h (y + 42) i (nI (m / 6))) (y + 42) k (nI (m % 6))) y (w2 i k (m / 6) (m % 6)) := fun j hj => by
        rw [hI_sI_eq, hI_sI_eq]
        have := hw j hj
        unfold w2 at this ⊢
        by_cases e1 : j = i
        · rw [if_pos e1, va_ne (fun q => ne (e1.symm.trans q)), e1, va_eq]
        · rw [if_neg e1]
          by_cases e2 : j = k
          · rw [if_pos e2, e2, va_eq]
          · rw [if_neg e2, va_ne e2, va_ne e1, this, if_neg e1, if_neg e2]
      have y1 : hI (sI (sI h (y + 42) i (nI (m / 6))) (y + 42) k (nI (m % 6))) y = hI h y := by rw [hI_sI_ne (by omega), hI_sI_ne (by omega)]
      rw [if_neg (by rw [qb]; decide), ck_p md.1, mR_way md, rq_s, ck_p (mK_way md), mN_way md, ck_p (nI_ix (show i < 4 by omega) (by decide)), ix_nI (show i < 2 ^ 31 by omega), bd_e, ck_p m1.1, mR_way m1, rq_s, ck_p (mK_way m1), mN_way m1, ck_p (nI_ix (show k < 4 by omega) (by decide)), ix_nI (show k < 2 ^ 31 by omega), bd_e]
      generalize sI (sI h (y + 42) i (nI (m / 6))) (y + 42) k (nI (m % 6)) = g1 at E1 w1 y1
      have p1 := pm.ex E1 (fun z z1 z2 z3 => by unfold hpP inM at z3; omega)
      have rS1 := rS.ex E1 (by unfold hpP inM; omega)
      obtain ⟨g2, r1, r2, r3⟩ := m_isContent (N := N) (s := s) (z := z) hN2 hT hJ5 hi pr.1 p1 rS1 w1
      have p2 := p1.ex r2 (fun z z1 z2 z3 => by unfold rsP inM at z3; omega)
      have rS2 := rS1.ex r2 (by unfold rsP inM; omega)
      have y2 : hI g2 y = hI h y := (r2.2.2.2 y (by unfold rsP inM; omega)).trans y1
      have E2 : Ex (hpP y) h g2 := E1.trans (Ex.mono (Q := hpP y) r2 (fun z hz => Or.inr hz))
      rw [ck_p p1.1.1, r1, cl_s, ite_i yb0]
      by_cases ga : okG A S i s z (w2 i k (m / 6) (m % 6)) = true
      rotate_left
      · have ga : okG A S i s z (w2 i k (m / 6) (m % 6)) = false := by simpa using ga
        have ct : ctB A S i k s t z (m / 6) (m % 6) = false := by unfold ctB; rw [ga, Bool.and_false]; rfl
        rw [if_pos ga, if_neg (by rw [ct]; decide)]
        exact next _ _ c g2 E2 (fun j => by rw [y2]) p2 rS2 r3
      obtain ⟨g3, s1, s2, s3⟩ := m_isContent (N := N) (s := t) (z := z) hN2 hT hJ5 hk pr.1 p2 rS2 r3
      have p3 := p2.ex s2 (fun z z1 z2 z3 => by unfold rsP inM at z3; omega)
      have rS3 := rS2.ex s2 (by unfold rsP inM; omega)
      have y3 : hI g3 y = hI h y := (s2.2.2.2 y (by unfold rsP inM; omega)).trans y2
      have E3 : Ex (hpP y) h g3 := E2.trans (Ex.mono (Q := hpP y) s2 (fun z hz => Or.inr hz))
      rw [if_neg (by rw [ga]; decide), ck_p p2.1.1, s1, cl_s, ite_i yb0]
      by_cases gb' : okG A S k t z (w2 i k (m / 6) (m % 6)) = true
      rotate_left
      · have gb' : okG A S k t z (w2 i k (m / 6) (m % 6)) = false := by simpa using gb'
        have ct : ctB A S i k s t z (m / 6) (m % 6) = false := by unfold ctB; rw [gb', Bool.and_false, Bool.and_false]
        rw [if_pos gb', if_neg (by rw [ct]; decide)]
        exact next _ _ c g3 E3 (fun j => by rw [y3]) p3 rS3 s3
      have ct : ctB A S i k s t z (m / 6) (m % 6) = true := by unfold ctB; rw [qa, qb, ga, gb']; rfl
      rw [if_neg (by rw [gb']; decide), if_pos ct]
      by_cases e : c = want
      · rw [if_pos e, if_pos e, ck_p p3.1.1, mR_valley p3.1, rq_s, ck_p (mK_valley p3.1), mN_valley p3.1, ck_p (by decide), rq_s, ck_p (mK_valley p3.1), mN_valley p3.1, ck_p (by decide), p3.2.1.1 0 (by decide), m_min5 h5 opA, m_min5 h5 opB, show (10 : Int32) = nI 10 from rfl, pk_mul, nI_add]
        refine ⟨g3, rfl, E3, ?_, fun j _ => by rw [y3]⟩
        rw [y3, ey]
        rfl
      · rw [if_neg e, if_neg e, bd_e]
        exact next _ _ (c + 1) g3 E3 (fun j => by rw [y3]) p3 rS3 s3
theorem m_nb {u : Nat → Nat} : ∀ (n i : Nat) (h : PH), 4 < n + i → i ≤ 4 → MD h y → (∀ j, j < i → hI h (y + 42) j = 5) → ∃ h', f_X11_noneBurns_2 N n y (nI i) h = some ((), h') ∧ Ex (fun z => z = y + 42) h h' ∧ ∀ j, j < 4 → hI h' (y + 42) j = 5
  | 0, i, h, h1, h2, _, _ => by omega
  | n + 1, i, h, h1, h2, m, ha => by
    show ∃ h', f_X11_noneBurns_2_b N (f_X11_noneBurns_2 N n) y _ h = _ ∧ _
    unfold f_X11_noneBurns_2_b
    rw [ite_i (show (4 : Int32) ≤ nI i ↔ 4 ≤ i from nI_leI (a := 4) (by decide) (by omega))]
    by_cases c : 4 ≤ i
    · rw [if_pos c]
      exact ⟨h, rfl, Ex.rf, fun j hj => ha j (by omega)⟩
    · obtain ⟨h', t1, t2, t3⟩ := m_nb (u := u) n (i + 1) (sI h (y + 42) i 5) (by omega) (by omega) (m.sm Sm.sI) (fun j hj => by
        rw [hI_sI_eq]
        by_cases e : j = i
        · rw [e, va_eq]
        · rw [va_ne e]; exact ha j (by omega))
      rw [if_neg c, ck_p m.1, mR_way m, rq_s, ck_p (mK_way m), mN_way m, ck_p (nI_ix (by omega) (by decide)), ix_nI (by omega), bd_e, bd_e, nI_1]
      exact ⟨h', t1, (Ex.sI (P := fun z => z = y + 42) rfl).trans t2, t3⟩
end RG
