/-! Duties: sure, hope. -/
def Xq (V q : Nat) : Nat := bts (fun j => V.testBit j && decide (j + 1 ≠ q)) 4
theorem Xq_b {V q : Nat} (hV : V < 16) (j : Nat) : (Xq V q).testBit j = true ↔ (V.testBit j = true ∧ j + 1 ≠ q) := by
  unfold Xq
  rw [bts_tb]
  by_cases c : j < 4
  · simp [c]
  · have : V.testBit j = false := Nat.testBit_lt_two_pow (Nat.lt_of_lt_of_le hV (by
      have : (16 : Nat) = 2 ^ 4 := rfl
      rw [this]
      exact Nat.pow_le_pow_right (by decide) (by omega)))
    simp [c, this]
theorem Xq_lt (V q : Nat) : Xq V q < 16 := bts_lt _ 4
theorem Xq_m : ∀ V, V < 16 → ∀ i, i < 4 → (nI V &&& (((1 : Int32) <<< (nI i &&& 31)) ^^^ (-1 : Int32))) = nI (Xq V (i + 1)) := by decide +kernel
def LQ (A : AV) (S : AS) (f q g : Nat) : List (Nat → Nat) := ws (Xq (noF A S f) q) (al A S) 4 0 (u0Q q g)
def tt1 : (Nat → Nat) → Bool := fun _ => true
theorem takeL_c {t t' : (Nat → Nat) → Bool} (h : ∀ u, t u = t' u) : ∀ a l, takeL t a l = takeL t' a l
  | [], _ => rfl
  | u :: a, l => by
    show takeL t a (if t u = true then u :: l else l) = takeL t' a (if t' u = true then u :: l else l)
    rw [h u, takeL_c h a]
theorem takeL_tt : ∀ a l, (takeL tt1 a l).length = l.length + a.length
  | [], _ => rfl
  | u :: a, l => by
    show (takeL tt1 a (u :: l)).length = _
    rw [takeL_tt a, List.length_cons, List.length_cons]
    omega
def sK (A : AV) (S : AS) (f : Nat) (u : Nat → Nat) : Nat := sgK A (sb A S u f 0) (sb A S u f 1)
theorem noF_lt {A : AV} (hW : WV A) (S : AS) (f : Nat) : noF A S f < 16 := Nat.lt_of_lt_of_le (bts_lt _ _) (by
  have : (16 : Nat) = 2 ^ 4 := rfl
  rw [this]
  exact Nat.pow_le_pow_right (by decide) hW.1.2.2.1)
def hpP (y z : Nat) : Prop := z = y ∨ z = y + 42 ∨ inM y z
section HP
variable {N x y J : Nat} {A : AV} {S : AS}
theorem sbs_s (hW : WV A) {u : Nat → Nat} {f s : Nat} (hs : s < aC A 3) : sbs A S u f = nI s ↔ sK A S f u = s := by
  have h6 := hW.1.2.2.2.1
  unfold sbs sK
  rcases sgK_c hW (sb A S u f 0) (sb A S u f 1) with ⟨e1, e2⟩ | ⟨k, hk, e1, e2⟩
  · rw [e1, e2]
    refine ⟨fun z => ?_, fun z => by omega⟩
    have := congrArg Int32.toInt z
    rw [nI_toInt (by omega), show (-1 : Int32).toInt = -1 by decide] at this
    omega
  · rw [e1, e2]
    exact nI_eq (by omega) (by omega)
theorem m_wf {h : PH} (m : MD h y) (hC : MV h y A) (hW : WV A) (rS : RS (hI h (y + 37)) 0 S) (hT : WS A J S) {X : Nat} (hX : X < 16) : ∀ (n i : Nat), aC A 2 < n + i → i ≤ aC A 2 → f_X11_withoutFire_4 N n y (nI X) (nI (bts (fun j => X.testBit j && decide (tL S j = 0)) i)) (nI i) h = some (nI (bts (fun j => X.testBit j && decide (tL S j = 0)) (aC A 2)), h)
  | 0, i, h1, h2 => by omega
  | n + 1, i, h1, h2 => by
    have h4 := hW.1.2.2.1
    show f_X11_withoutFire_4_b N (f_X11_withoutFire_4 N n) y _ _ _ h = _
    unfold f_X11_withoutFire_4_b
    rw [ck_p m.1, mR_valley m, rq_s, ck_p (mK_valley m), mN_valley m, ck_p (by decide), hC.1 2 (by decide), ite_i (nI_leI (by omega) (by omega))]
    by_cases c : aC A 2 ≤ i
    · rw [if_pos c, show i = aC A 2 by omega]
    · have ih := m_wf m hC hW rS hT hX n (i + 1) (by omega) (by omega)
      rw [bts_succ] at ih
      unfold f_X11_withoutFire_38 f_X11_withoutFire_39
      rw [if_neg c, ite_i (bt_sh1 X hX i (by omega))]
      by_cases t : X.testBit i = true
      · rw [if_pos t, m_isFire m rS hT (by omega), cl_s, ite_i yes0]
        by_cases z : 0 < tL S i
        · rw [if_neg (fun q => q z), bd_e, bd_e, nI_1, bts_or0]
          rw [if_neg (by simp; omega)] at ih
          exact ih
        · rw [if_pos z, bd_e, bd_e, nI_1, bts_or _ (by omega)]
          rw [if_pos (by simp [t]; omega)] at ih
          exact ih
      · rw [if_neg t, bd_e, bd_e, nI_1, bts_or0]
        rw [if_neg (by simp [t])] at ih
        exact ih
theorem m_withoutFire (hN : 10 ≤ N) {h : PH} (m : MD h y) (hC : MV h y A) (hW : WV A) (rS : RS (hI h (y + 37)) 0 S) (hT : WS A J S) {X : Nat} (hX : X < 16) : f_X11_withoutFire N y (nI X) h = some (nI (bts (fun j => X.testBit j && decide (tL S j = 0)) (aC A 2)), h) := m_wf m hC hW rS hT hX N 0 (by have := hW.1.2.2.1; omega) (by omega)
theorem wf_flue (f : Nat) : bts (fun j => (aHs A f).testBit j && decide (tL S j = 0)) (aC A 2) = noF A S f := by
  unfold noF
  refine bts_cong (fun k hk => ?_)
  have : (aHs A f).testBit k = decide (aF A k = f) := by
    unfold aHs
    rw [bts_tb]
    simp [hk]
  rw [this]
/-- one way is looked at, and the next one comes -/
theorem m_hpb (hN : 3000 ≤ N) (hT : WS A J S) (hJ : J < 2 ^ 30) {X i s : Nat} (hX : X < 16) (hW : WV A) (hi : i < aC A 2) (hs : s < aC A 3) (u : Nat → Nat) (l : List (Nat → Nat)) (h : PH) (oku : okU A u) (p : MA N h y A) (rS : RS (hI h (y + 37)) 0 S) (hw : WY h y u) (e61 : hI h y 61 = nI (cn (sK A S (aF A i)) s l)) (e62 : hI h y 62 = nI l.length) : ∃ g, (∀ n, f_X11_hopes_48 N (n + 1) y (nI i) (nI s) (nI X) 1 h = f_X11_hopes_48 N n y (nI i) (nI s) (nI X) (yb (nf X (al A S) 4 u).1) g) ∧ Ex (hpP y) h g ∧ WY g y (nf X (al A S) 4 u).2 ∧ MA N g y A ∧ RS (hI g (y + 37)) 0 S ∧ hI g y 61 = nI (cn (sK A S (aF A i)) s (u :: l)) ∧ hI g y 62 = nI (u :: l).length ∧ ∀ j, j ≠ 61 → j ≠ 62 → hI g y j = hI h y j := by
  have m := p.1
  have h5 := hW.1.1
  have h4 := hW.1.2.2.1
  have h3 := hW.1.2.1
  have fl := hW.2.2.1 i hi
  have E0 : Ex (fun z => z = y) h (sI h y 62 (nI (l.length + 1))) := Ex.sI rfl
  have f0 : hI (sI h y 62 (nI (l.length + 1))) y = va_up (hI h y) 62 (nI (l.length + 1)) := hI_sI_eq
  have step0 : ∀ n, f_X11_hopes_48 N (n + 1) y (nI i) (nI s) (nI X) 1 h = (ck (hK (sI h y 62 (nI (l.length + 1))) y = 10) <| rq (hR (sI h y 62 (nI (l.length + 1))) y 15) fun a5 => ck (hK (sI h y 62 (nI (l.length + 1))) a5 = 12) <| ck (inb (nI i) (COneSmokeLaw_law_r9589_37766e.hN (sI h y 62 (nI (l.length + 1))) a5)) <| cl (f_X11_signBy N y (hI (sI h y 62 (nI (l.length + 1))) a5 (ix (nI i))) (sI h y 62 (nI (l.length + 1)))) fun r8 h9 => if r8 = nI s then f_X11_hopes_87 N (f_X11_hopes_48 N n) (1 : Int32) (hI (sI h y 62 (nI (l.length + 1))) y 61) y y (nI i) (nI s) (nI X) h9 else f_X11_hopes_87 N (f_X11_hopes_48 N n) (0 : Int32) (hI (sI h y 62 (nI (l.length + 1))) y 61) y y (nI i) (nI s) (nI X) h9) := fun n => by
    show f_X11_hopes_48_b N (f_X11_hopes_48 N n) y _ _ _ _ h = _
    unfold f_X11_hopes_48_b
    rw [if_neg one0, ck_p m.1, e62, nI_1, bd_e]
  generalize sI h y 62 (nI (l.length + 1)) = g0 at f0 E0 step0
  have p0 := p.ex E0 (fun z z1 z2 z3 => by omega)
  have rS0 := rS.ex E0 (by omega)
  have w0 : WY g0 y u := hw.ex E0 (by omega)
  have m0 := p0.1
  obtain ⟨g1, r1, r2⟩ := m_signBy (N := N) (by omega) hT hJ oku (f := aF A i) (by omega) p0 rS0 w0
  have p1 := p0.ex r2 (fun z z1 z2 z3 => by unfold inM at z3; omega)
  have rS1 := rS0.ex r2 (by unfold inM; omega)
  have w1 : WY g1 y u := w0.ex r2 (by unfold inM; omega)
  have ey1 : hI g1 y = va_up (hI h y) 62 (nI (l.length + 1)) := by rw [r2.2.2.2 y (by unfold inM; omega), f0]
  obtain ⟨c, ec, ecc⟩ : ∃ c : Nat, c = (if sK A S (aF A i) u = s then 1 else 0) ∧ ∀ n, f_X11_hopes_48 N (n + 1) y (nI i) (nI s) (nI X) 1 h = f_X11_hopes_87 N (f_X11_hopes_48 N n) (nI c) (nI (cn (sK A S (aF A i)) s l)) y y (nI i) (nI s) (nI X) g1 := by
    have e61' : hI g0 y 61 = nI (cn (sK A S (aF A i)) s l) := by rw [f0, va_ne (by decide)]; exact e61
    by_cases c : sK A S (aF A i) u = s
    · refine ⟨1, by rw [if_pos c], fun n => ?_⟩
      rw [step0 n, ck_p m0.1, mR_houseAt m0, rq_s, ck_p (mK_houseAt m0), mN_houseAt m0, ck_p (nI_ix (by omega) (by decide)), ix_nI (by omega), p0.2.1.2.2.1 i hi, r1, cl_s, e61', if_pos ((sbs_s hW (u := u) (f := aF A i) hs).mpr c)]
      rfl
    · refine ⟨0, by rw [if_neg c], fun n => ?_⟩
      rw [step0 n, ck_p m0.1, mR_houseAt m0, rq_s, ck_p (mK_houseAt m0), mN_houseAt m0, ck_p (nI_ix (by omega) (by decide)), ix_nI (by omega), p0.2.1.2.2.1 i hi, r1, cl_s, e61', if_neg (fun z => c ((sbs_s hW (u := u) (f := aF A i) hs).mp z))]
      rfl
  have e1 : cn (sK A S (aF A i)) s (u :: l) = cn (sK A S (aF A i)) s l + c := by rw [ec]; rfl
  have y2 : Ex (fun z => z = y) g1 (sI g1 y 61 (nI (cn (sK A S (aF A i)) s (u :: l)))) := Ex.sI rfl
  have f2 : hI (sI g1 y 61 (nI (cn (sK A S (aF A i)) s (u :: l)))) y = va_up (hI g1 y) 61 (nI (cn (sK A S (aF A i)) s (u :: l))) := hI_sI_eq
  have step1 : ∀ n, f_X11_hopes_48 N (n + 1) y (nI i) (nI s) (nI X) 1 h = (ck (hK (sI g1 y 61 (nI (cn (sK A S (aF A i)) s (u :: l)))) y = 10) <| cl (f_X11_nextWay N y (nI X) (sI g1 y 61 (nI (cn (sK A S (aF A i)) s (u :: l))))) fun r3 h4 => f_X11_hopes_48 N n y (nI i) (nI s) (nI X) r3 h4) := fun n => by
    rw [ecc n]
    unfold f_X11_hopes_87
    rw [ck_p p1.1.1, nI_add, ← e1, bd_e]
  generalize sI g1 y 61 (nI (cn (sK A S (aF A i)) s (u :: l))) = g2 at y2 f2 step1
  have p2 := p1.ex y2 (fun z z1 z2 z3 => by omega)
  have rS2 := rS1.ex y2 (by omega)
  have w2 : WY g2 y u := w1.ex y2 (by omega)
  obtain ⟨g3, s1, s2, s3⟩ := m_nextWay (N := N) (by omega) hW hT hX p2.1 p2.2.1 rS2 w2 (fun j hj => by have := oku j hj; omega)
  have ey3 : hI g3 y = va_up (va_up (hI h y) 62 (nI (l.length + 1))) 61 (nI (cn (sK A S (aF A i)) s (u :: l))) := by rw [s2.2.2.2 y (by omega), f2, ey1]
  refine ⟨g3, fun n => ?_, (((E0.mono (fun z hz => Or.inl hz)).trans (r2.mono (fun z hz => Or.inr (Or.inr hz)))).trans (y2.mono (fun z hz => Or.inl hz))).trans (s2.mono (fun z hz => Or.inr (Or.inl hz))), s3, p2.ex s2 (fun z z1 z2 z3 => by omega), rS2.ex s2 (by omega), by rw [ey3, va_eq], by rw [ey3, va_ne (by decide), va_eq]; rfl, fun j j1 j2 => by rw [ey3, va_ne j1, va_ne j2]⟩
  rw [step1 n, ck_p p2.1.1, s1, cl_s]
theorem m_hp48 (hN : 3000 ≤ N) (hT : WS A J S) (hJ : J < 2 ^ 30) {X i s : Nat} (hX : X < 16) (hW : WV A) (hi : i < aC A 2) (hs : s < aC A 3) : ∀ (L : List (Nat → Nat)) (u : Nat → Nat) (l : List (Nat → Nat)) (n : Nat) (h : PH), Chn (nf X (al A S) 4) (fun e => (nf X (al A S) 4 e).1 = false) (u :: L) → L.length + 1 < n → okL A (u :: L) → MA N h y A → RS (hI h (y + 37)) 0 S → WY h y u → hI h y 61 = nI (cn (sK A S (aF A i)) s l) → hI h y 62 = nI l.length → ∃ h', f_X11_hopes_48 N n y (nI i) (nI s) (nI X) 1 h = some ((), h') ∧ Ex (hpP y) h h' ∧ hI h' y 61 = nI (cn (sK A S (aF A i)) s (takeL tt1 (u :: L) l)) ∧ hI h' y 62 = nI (takeL tt1 (u :: L) l).length ∧ ∀ j, j ≠ 61 → j ≠ 62 → hI h' y j = hI h y j
  | [], u, l, n, h, hc, hn, ok, p, rS, hw, e61, e62 => by
    obtain ⟨n, rfl⟩ : ∃ k, n = k + 1 + 1 := ⟨n - 2, by rw [List.length_nil] at hn; omega⟩
    obtain ⟨g, g1, g2, g3, g4, g5, g6, g7, g8⟩ := m_hpb hN hT hJ hX hW hi hs u l h (ok u List.mem_cons_self) p rS hw e61 e62
    have hc : (nf X (al A S) 4 u).1 = false := hc
    rw [hc] at g1
    refine ⟨g, ?_, g2, g6, g7, g8⟩
    rw [g1 (n + 1)]
    show f_X11_hopes_48_b N (f_X11_hopes_48 N n) y _ _ _ _ g = _
    unfold f_X11_hopes_48_b
    rw [if_pos (show yb false = 0 from rfl)]
  | v :: L, u, l, n, h, hc, hn, ok, p, rS, hw, e61, e62 => by
    obtain ⟨n, rfl⟩ : ∃ k, n = k + 1 := ⟨n - 1, by omega⟩
    obtain ⟨g, g1, g2, g3, g4, g5, g6, g7, g8⟩ := m_hpb hN hT hJ hX hW hi hs u l h (ok u List.mem_cons_self) p rS hw e61 e62
    have hc1 : nf X (al A S) 4 u = (true, v) := hc.1
    rw [hc1] at g1 g3
    obtain ⟨h', t1, t2, t3, t4, t5⟩ := m_hp48 hN hT hJ hX hW hi hs L v (u :: l) n g hc.2 (by rw [List.length_cons] at hn; omega) (fun z hz => ok z (List.mem_cons_of_mem _ hz)) g4 g5 g3 g6 g7
    exact ⟨h', by rw [g1 n]; exact t1, g2.trans t2, t3, t4, fun j j1 j2 => (t5 j j1 j2).trans (g8 j j1 j2)⟩
theorem hdw_u0 {X i g : Nat} {p : Nat → Nat → Bool} (hi : ¬ X.testBit i = true) : va_up (hdw X p 0 (fun _ => 5)) i g = hdw X p 0 (u0Q (i + 1) g) := by
  funext j
  unfold va_up hdw u0Q
  by_cases c : j = i
  · subst c
    rw [if_pos rfl, if_neg (fun z => hi z.2.2), if_pos rfl]
  · rw [if_neg c, if_neg (show ¬ j + 1 = i + 1 by omega)]
theorem LQ_ok (hW : WV A) {f q g : Nat} (hg : q ≠ 0 → g < aC A 0) : okL A (LQ A S f q g) := ws_ok hW 4 0 _ rfl (fun j hj => by
  unfold u0Q
  by_cases z : j + 1 = q
  · rw [if_pos z]; exact Or.inr (hg (by omega))
  · rw [if_neg z]; exact Or.inl rfl)
theorem LQ_len (f q g : Nat) : (LQ A S f q g).length ≤ 1296 := ws_len 4 0 _
theorem LQ_c (f q g : Nat) : ∃ l, LQ A S f q g = hdw (Xq (noF A S f) q) (al A S) 0 (u0Q q g) :: l ∧ Chn (nf (Xq (noF A S f) q) (al A S) 4) (fun e => (nf (Xq (noF A S f) q) (al A S) 4 e).1 = false) (hdw (Xq (noF A S f) q) (al A S) 0 (u0Q q g) :: l) := by
  obtain ⟨⟨l, e⟩, c⟩ := ws_chn (X := Xq (noF A S f) q) (p := al A S) (al5 A S) 4 0 (u0Q q g) rfl
  refine ⟨l, e, ?_⟩
  rw [e] at c
  exact c.mono (fun z hz => by rw [hz]; rfl)
theorem m_hopes (hN : 3000 ≤ N) (hT : WS A J S) (hJ : J < 2 ^ 30) {i g s : Nat} (hi : i < aC A 2) (hg : g < aC A 0) (hs : s < aC A 3) {h : PH} (p : MA N h y A) (rS : RS (hI h (y + 37)) 0 S) : ∃ h', f_X11_hopes N y (nI i) (nI g) (nI s) h = some ((), h') ∧ Ex (hpP y) h h' ∧ hI h' y 61 = nI (cn (sK A S (aF A i)) s (takeL tt1 (LQ A S (aF A i) (i + 1) g) [])) ∧ hI h' y 62 = nI (takeL tt1 (LQ A S (aF A i) (i + 1) g) []).length ∧ ∀ j, j ≠ 61 → j ≠ 62 → hI h' y j = hI h y j := by
  have m := p.1
  have hW := p.2.2.1
  have h5 := hW.1.1
  have h4 := hW.1.2.2.1
  have h3 := hW.1.2.1
  have fl := hW.2.2.1 i hi
  have nl := noF_lt hW S (aF A i)
  have xl := Xq_lt (noF A S (aF A i)) (i + 1)
  unfold f_X11_hopes
  rw [ck_p m.1, mR_houseAt m, rq_s, ck_p (mK_houseAt m), mN_houseAt m, ck_p (nI_ix (by omega) (by decide)), ix_nI (by omega), p.2.1.2.2.1 i hi, m_housesOf (by omega) m p.2.1 hW (by omega), cl_s, ck_p m.1, m_withoutFire (by omega) m p.2.1 hW rS hT (aHs_lt hW _), cl_s, wf_flue, Xq_m _ nl i (by omega), bd_e, ck_p m.1, bd_e]
  have E1 : Ex (fun z => z = y) h (sI (sI h y 61 0) y 62 0) := (Ex.sI (P := fun z => z = y) rfl).trans (Ex.sI (P := fun z => z = y) rfl)
  have f1 : hI (sI (sI h y 61 0) y 62 0) y = va_up (va_up (hI h y) 61 0) 62 0 := by rw [hI_sI_eq, hI_sI_eq]
  rw [ck_p (show hK (sI h y 61 0) y = 10 from m.1), bd_e]
  generalize sI (sI h y 61 0) y 62 0 = g1 at E1 f1
  have p1 := p.ex E1 (fun z z1 z2 z3 => by omega)
  have rS1 := rS.ex E1 (by omega)
  obtain ⟨g2, r1, r2, r3⟩ := m_firstWay (N := N) (by omega) p1.1 p1.2.1 hW rS1 hT xl
  have p2 := p1.ex r2 (fun z z1 z2 z3 => by omega)
  have rS2 := rS1.ex r2 (by omega)
  have m2 := p2.1
  rw [ck_p p1.1.1, r1, cl_s, ck_p m2.1, mR_way m2, rq_s, ck_p (mK_way m2), mN_way m2, ck_p (nI_ix (by omega) (by decide)), bd_e]
  have E3 : Ex (fun z => z = y + 42) g2 (sI g2 (y + 42) i (nI g)) := Ex.sI rfl
  have ni : ¬ (Xq (noF A S (aF A i)) (i + 1)).testBit i = true := fun z => ((Xq_b nl i).mp z).2 rfl
  have w3 : WY (sI g2 (y + 42) i (nI g)) y (hdw (Xq (noF A S (aF A i)) (i + 1)) (al A S) 0 (u0Q (i + 1) g)) := fun j hj => by
    rw [← hdw_u0 ni, hI_sI_eq]
    by_cases c : j = i
    · rw [c, va_eq, va_eq]
    · rw [va_ne c, va_ne c]; exact r3 j hj
  have ey3 : hI (sI g2 (y + 42) i (nI g)) y = va_up (va_up (hI h y) 61 0) 62 0 := by rw [hI_sI_ne (by omega), r2.2.2.2 y (by omega), f1]
  generalize sI g2 (y + 42) i (nI g) = g3 at E3 w3 ey3
  have p3 := p2.ex E3 (fun z z1 z2 z3 => by omega)
  have rS3 := rS2.ex E3 (by omega)
  obtain ⟨l, el, cl⟩ := LQ_c (A := A) (S := S) (aF A i) (i + 1) g
  have ll := LQ_len (A := A) (S := S) (aF A i) (i + 1) g
  have lo := LQ_ok (S := S) hW (f := aF A i) (q := i + 1) (g := g) (fun _ => hg)
  rw [el] at ll lo ⊢
  rw [List.length_cons] at ll
  obtain ⟨h', t1, t2, t3, t4, t5⟩ := m_hp48 hN hT hJ xl hW hi hs l _ [] N g3 cl (by omega) lo p3 rS3 w3 (by rw [ey3, va_ne (by decide), va_eq]; rfl) (by rw [ey3, va_eq]; rfl)
  exact ⟨h', t1, (((E1.mono (fun z hz => Or.inl hz)).trans (r2.mono (fun z hz => Or.inr (Or.inl hz)))).trans (E3.mono (fun z hz => Or.inr (Or.inl hz)))).trans t2, t3, t4, fun j j1 j2 => by rw [t5 j j1 j2, ey3, va_ne j2, va_ne j1]⟩
end HP
